theorem cd_X12_isIn_0 : ylk m_X12_isIn.2.2.2.2.1 0 = some (.iload_n 0) := by decide +kernel
theorem cd_X12_isIn_1 : ylk m_X12_isIn.2.2.2.2.1 1 = some (.iload_n 1) := by decide +kernel
theorem cd_X12_isIn_2 : ylk m_X12_isIn.2.2.2.2.1 2 = some (.if_icmp .lt 12) := by decide +kernel
theorem cd_X12_isIn_5 : ylk m_X12_isIn.2.2.2.2.1 5 = some (.iload_n 0) := by decide +kernel
theorem cd_X12_isIn_6 : ylk m_X12_isIn.2.2.2.2.1 6 = some (.iload_n 2) := by decide +kernel
theorem cd_X12_isIn_7 : ylk m_X12_isIn.2.2.2.2.1 7 = some (.if_icmp .gt 7) := by decide +kernel
theorem cd_X12_isIn_10 : ylk m_X12_isIn.2.2.2.2.1 10 = some (.iconst 1) := by decide +kernel
theorem cd_X12_isIn_11 : ylk m_X12_isIn.2.2.2.2.1 11 = some (.goto 4) := by decide +kernel
theorem cd_X12_isIn_14 : ylk m_X12_isIn.2.2.2.2.1 14 = some (.iconst 0) := by decide +kernel
theorem cd_X12_isIn_15 : ylk m_X12_isIn.2.2.2.2.1 15 = some (.ireturn) := by decide +kernel
noncomputable abbrev yb_X12_isIn (C : yC) : ySt → Option (Option Value × yM) := yrn m_X12_isIn C
theorem en_X12_isIn (n : Nat) (A : yM) (v0 : Int32) (v1 : Int32) (v2 : Int32) : ycall (n + 1) 138 [.int v0, .int v1, .int v2] A = if v0 < v1 then (if (0 : Int32) = 0 ∨ (0 : Int32) = 1 then some (some (.int (0 : Int32)), A) else none) else (if v2 < v0 then (if (0 : Int32) = 0 ∨ (0 : Int32) = 1 then some (some (.int (0 : Int32)), A) else none) else (if (1 : Int32) = 0 ∨ (1 : Int32) = 1 then some (some (.int (1 : Int32)), A) else none)) := (ybig_blk 10 _).trans (z_iload_n cd_X12_isIn_0 (j := 0) rfl rfl (p := 1) rfl (zgo rfl (z_iload_n cd_X12_isIn_1 (j := 1) rfl rfl (p := 2) rfl (zgo rfl (z_ic_lt cd_X12_isIn_2 (p := 14) rfl (p2 := 5) rfl (zgo rfl (z_iconst cd_X12_isIn_14 ki_0 (p := 15) rfl (zgo rfl (z_zret cd_X12_isIn_15 rfl)))) (zgo rfl (z_iload_n cd_X12_isIn_5 (j := 0) rfl rfl (p := 6) rfl (zgo rfl (z_iload_n cd_X12_isIn_6 (j := 2) rfl rfl (p := 7) rfl (zgo rfl (z_ic_gt cd_X12_isIn_7 (p := 14) rfl (p2 := 10) rfl (zgo rfl (z_iconst cd_X12_isIn_14 ki_0 (p := 15) rfl (zgo rfl (z_zret cd_X12_isIn_15 rfl)))) (zgo rfl (z_iconst cd_X12_isIn_10 ki_1 (p := 11) rfl (zgo rfl (z_goto cd_X12_isIn_11 (p := 15) rfl (zgo rfl (z_zret cd_X12_isIn_15 rfl)))))))))))))))))
theorem cd_X12_least_0 : ylk m_X12_least.2.2.2.2.1 0 = some (.iload_n 0) := by decide +kernel
theorem cd_X12_least_1 : ylk m_X12_least.2.2.2.2.1 1 = some (.iload_n 1) := by decide +kernel
theorem cd_X12_least_2 : ylk m_X12_least.2.2.2.2.1 2 = some (.if_icmp .ge 7) := by decide +kernel
theorem cd_X12_least_5 : ylk m_X12_least.2.2.2.2.1 5 = some (.iload_n 0) := by decide +kernel
theorem cd_X12_least_6 : ylk m_X12_least.2.2.2.2.1 6 = some (.goto 4) := by decide +kernel
theorem cd_X12_least_9 : ylk m_X12_least.2.2.2.2.1 9 = some (.iload_n 1) := by decide +kernel
theorem cd_X12_least_10 : ylk m_X12_least.2.2.2.2.1 10 = some (.ireturn) := by decide +kernel
noncomputable abbrev yb_X12_least (C : yC) : ySt → Option (Option Value × yM) := yrn m_X12_least C
theorem en_X12_least (n : Nat) (A : yM) (v0 : Int32) (v1 : Int32) : ycall (n + 1) 139 [.int v0, .int v1] A = if v1 ≤ v0 then (some (some (.int v1), A)) else (some (some (.int v0), A)) := (ybig_blk 7 _).trans (z_iload_n cd_X12_least_0 (j := 0) rfl rfl (p := 1) rfl (zgo rfl (z_iload_n cd_X12_least_1 (j := 1) rfl rfl (p := 2) rfl (zgo rfl (z_ic_ge cd_X12_least_2 (p := 9) rfl (p2 := 5) rfl (zgo rfl (z_iload_n cd_X12_least_9 (j := 1) rfl rfl (p := 10) rfl (zgo rfl (z_iret cd_X12_least_10 rfl)))) (zgo rfl (z_iload_n cd_X12_least_5 (j := 0) rfl rfl (p := 6) rfl (zgo rfl (z_goto cd_X12_least_6 (p := 10) rfl (zgo rfl (z_iret cd_X12_least_10 rfl)))))))))))
theorem cd_X12_apart_0 : ylk m_X12_apart.2.2.2.2.1 0 = some (.iload_n 0) := by decide +kernel
theorem cd_X12_apart_1 : ylk m_X12_apart.2.2.2.2.1 1 = some (.iload_n 1) := by decide +kernel
theorem cd_X12_apart_2 : ylk m_X12_apart.2.2.2.2.1 2 = some (.if_icmp .ge 9) := by decide +kernel
theorem cd_X12_apart_5 : ylk m_X12_apart.2.2.2.2.1 5 = some (.iload_n 1) := by decide +kernel
theorem cd_X12_apart_6 : ylk m_X12_apart.2.2.2.2.1 6 = some (.iload_n 0) := by decide +kernel
theorem cd_X12_apart_7 : ylk m_X12_apart.2.2.2.2.1 7 = some (.isub) := by decide +kernel
theorem cd_X12_apart_8 : ylk m_X12_apart.2.2.2.2.1 8 = some (.goto 6) := by decide +kernel
theorem cd_X12_apart_11 : ylk m_X12_apart.2.2.2.2.1 11 = some (.iload_n 0) := by decide +kernel
theorem cd_X12_apart_12 : ylk m_X12_apart.2.2.2.2.1 12 = some (.iload_n 1) := by decide +kernel
theorem cd_X12_apart_13 : ylk m_X12_apart.2.2.2.2.1 13 = some (.isub) := by decide +kernel
theorem cd_X12_apart_14 : ylk m_X12_apart.2.2.2.2.1 14 = some (.ireturn) := by decide +kernel
noncomputable abbrev yb_X12_apart (C : yC) : ySt → Option (Option Value × yM) := yrn m_X12_apart C
theorem en_X12_apart (n : Nat) (A : yM) (v0 : Int32) (v1 : Int32) : ycall (n + 1) 140 [.int v0, .int v1] A = if v1 ≤ v0 then (some (some (.int (v0 - v1)), A)) else (some (some (.int (v1 - v0)), A)) := (ybig_blk 9 _).trans (z_iload_n cd_X12_apart_0 (j := 0) rfl rfl (p := 1) rfl (zgo rfl (z_iload_n cd_X12_apart_1 (j := 1) rfl rfl (p := 2) rfl (zgo rfl (z_ic_ge cd_X12_apart_2 (p := 11) rfl (p2 := 5) rfl (zgo rfl (z_iload_n cd_X12_apart_11 (j := 0) rfl rfl (p := 12) rfl (zgo rfl (z_iload_n cd_X12_apart_12 (j := 1) rfl rfl (p := 13) rfl (zgo rfl (z_isub cd_X12_apart_13 (p := 14) rfl (zgo rfl (z_iret cd_X12_apart_14 rfl)))))))) (zgo rfl (z_iload_n cd_X12_apart_5 (j := 1) rfl rfl (p := 6) rfl (zgo rfl (z_iload_n cd_X12_apart_6 (j := 0) rfl rfl (p := 7) rfl (zgo rfl (z_isub cd_X12_apart_7 (p := 8) rfl (zgo rfl (z_goto cd_X12_apart_8 (p := 14) rfl (zgo rfl (z_iret cd_X12_apart_14 rfl)))))))))))))))
theorem cd_X12_copies_0 : ylk m_X12_copies.2.2.2.2.1 0 = some (.iconst 0) := by decide +kernel
theorem cd_X12_copies_1 : ylk m_X12_copies.2.2.2.2.1 1 = some (.istore_n 2) := by decide +kernel
theorem cd_X12_copies_2 : ylk m_X12_copies.2.2.2.2.1 2 = some (.iload_n 2) := by decide +kernel
theorem cd_X12_copies_3 : ylk m_X12_copies.2.2.2.2.1 3 = some (.bipush 81) := by decide +kernel
theorem cd_X12_copies_5 : ylk m_X12_copies.2.2.2.2.1 5 = some (.if_icmp .ge 15) := by decide +kernel
theorem cd_X12_copies_8 : ylk m_X12_copies.2.2.2.2.1 8 = some (.aload_n 1) := by decide +kernel
theorem cd_X12_copies_9 : ylk m_X12_copies.2.2.2.2.1 9 = some (.iload_n 2) := by decide +kernel
theorem cd_X12_copies_10 : ylk m_X12_copies.2.2.2.2.1 10 = some (.aload_n 0) := by decide +kernel
theorem cd_X12_copies_11 : ylk m_X12_copies.2.2.2.2.1 11 = some (.iload_n 2) := by decide +kernel
theorem cd_X12_copies_12 : ylk m_X12_copies.2.2.2.2.1 12 = some (.iaload) := by decide +kernel
theorem cd_X12_copies_13 : ylk m_X12_copies.2.2.2.2.1 13 = some (.iastore) := by decide +kernel
theorem cd_X12_copies_14 : ylk m_X12_copies.2.2.2.2.1 14 = some (.iinc 2 1) := by decide +kernel
theorem cd_X12_copies_17 : ylk m_X12_copies.2.2.2.2.1 17 = some (.goto (-15)) := by decide +kernel
theorem cd_X12_copies_20 : ylk m_X12_copies.2.2.2.2.1 20 = some (.return_) := by decide +kernel
noncomputable abbrev yb_X12_copies (C : yC) : ySt → Option (Option Value × yM) := yrn m_X12_copies C
theorem en_X12_copies (n : Nat) (A : yM) (v0 : Nat) (v1 : Nat) : ycall (n + 1) 141 [.ref v0, .ref v1] A = yb_X12_copies (ycall n) (2, [some (.ref v0), some (.ref v1), some (.int (0 : Int32))], [], A) := (ybig_blk 3 _).trans (z_iconst cd_X12_copies_0 ki_0 (p := 1) rfl (zgo rfl (z_istore_n cd_X12_copies_1 (j := 2) rfl rfl (p := 2) rfl (zcut (p := 2) rfl rfl))))
theorem bk_X12_copies_2 (C : yC) (A : yM) (v0 : Nat) (v1 : Nat) (v2 : Int32) : yb_X12_copies C (2, [some (.ref v0), some (.ref v1), some (.int v2)], [], A) = if (81 : Int32) ≤ v2 then (some (none, A)) else (yrd A v0 v2 (fun x1 => ywr A v1 v2 x1 (fun A2 => yb_X12_copies C (2, [some (.ref v0), some (.ref v1), some (.int (v2 + (1 : Int32)))], [], A2)))) := (ybig_blk 12 _).trans (z_iload_n cd_X12_copies_2 (j := 2) rfl rfl (p := 3) rfl (zgo rfl (z_bipush cd_X12_copies_3 kb_81 (p := 5) rfl (zgo rfl (z_ic_ge cd_X12_copies_5 (p := 20) rfl (p2 := 8) rfl (zgo rfl (z_ret cd_X12_copies_20 rfl)) (zgo rfl (z_aload_n cd_X12_copies_8 (j := 1) rfl rfl (p := 9) rfl (zgo rfl (z_iload_n cd_X12_copies_9 (j := 2) rfl rfl (p := 10) rfl (zgo rfl (z_aload_n cd_X12_copies_10 (j := 0) rfl rfl (p := 11) rfl (zgo rfl (z_iload_n cd_X12_copies_11 (j := 2) rfl rfl (p := 12) rfl (zgo rfl (z_iaload cd_X12_copies_12 (p := 13) rfl (fun _ => (zgo rfl (z_iastore cd_X12_copies_13 (p := 14) rfl (fun _ => (zgo rfl (z_iinc cd_X12_copies_14 ki_1 rfl rfl (p := 17) rfl (zgo rfl (z_goto cd_X12_copies_17 (p := 2) rfl (zcut (p := 2) rfl rfl))))))))))))))))))))))))
theorem cd_X12_ofS_0 : ylk m_X12_ofS.2.2.2.2.1 0 = some (.iconst 3) := by decide +kernel
theorem cd_X12_ofS_1 : ylk m_X12_ofS.2.2.2.2.1 1 = some (.iconst 3) := by decide +kernel
theorem cd_X12_ofS_2 : ylk m_X12_ofS.2.2.2.2.1 2 = some (.iload_n 0) := by decide +kernel
theorem cd_X12_ofS_3 : ylk m_X12_ofS.2.2.2.2.1 3 = some (.imul) := by decide +kernel
theorem cd_X12_ofS_4 : ylk m_X12_ofS.2.2.2.2.1 4 = some (.iadd) := by decide +kernel
theorem cd_X12_ofS_5 : ylk m_X12_ofS.2.2.2.2.1 5 = some (.iload_n 1) := by decide +kernel
theorem cd_X12_ofS_6 : ylk m_X12_ofS.2.2.2.2.1 6 = some (.iadd) := by decide +kernel
theorem cd_X12_ofS_7 : ylk m_X12_ofS.2.2.2.2.1 7 = some (.ireturn) := by decide +kernel
noncomputable abbrev yb_X12_ofS (C : yC) : ySt → Option (Option Value × yM) := yrn m_X12_ofS C
theorem en_X12_ofS (n : Nat) (A : yM) (v0 : Int32) (v1 : Int32) : ycall (n + 1) 142 [.int v0, .int v1] A = some (some (.int (((3 : Int32) + ((3 : Int32) * v0)) + v1)), A) := (ybig_blk 9 _).trans (z_iconst cd_X12_ofS_0 ki_3 (p := 1) rfl (zgo rfl (z_iconst cd_X12_ofS_1 ki_3 (p := 2) rfl (zgo rfl (z_iload_n cd_X12_ofS_2 (j := 0) rfl rfl (p := 3) rfl (zgo rfl (z_imul cd_X12_ofS_3 (p := 4) rfl (zgo rfl (z_iadd cd_X12_ofS_4 (p := 5) rfl (zgo rfl (z_iload_n cd_X12_ofS_5 (j := 1) rfl rfl (p := 6) rfl (zgo rfl (z_iadd cd_X12_ofS_6 (p := 7) rfl (zgo rfl (z_iret cd_X12_ofS_7 rfl)))))))))))))))
theorem cd_X12_ofE_0 : ylk m_X12_ofE.2.2.2.2.1 0 = some (.bipush 21) := by decide +kernel
theorem cd_X12_ofE_2 : ylk m_X12_ofE.2.2.2.2.1 2 = some (.iconst 5) := by decide +kernel
theorem cd_X12_ofE_3 : ylk m_X12_ofE.2.2.2.2.1 3 = some (.iload_n 0) := by decide +kernel
theorem cd_X12_ofE_4 : ylk m_X12_ofE.2.2.2.2.1 4 = some (.imul) := by decide +kernel
theorem cd_X12_ofE_5 : ylk m_X12_ofE.2.2.2.2.1 5 = some (.iadd) := by decide +kernel
theorem cd_X12_ofE_6 : ylk m_X12_ofE.2.2.2.2.1 6 = some (.iload_n 1) := by decide +kernel
theorem cd_X12_ofE_7 : ylk m_X12_ofE.2.2.2.2.1 7 = some (.iadd) := by decide +kernel
theorem cd_X12_ofE_8 : ylk m_X12_ofE.2.2.2.2.1 8 = some (.ireturn) := by decide +kernel
noncomputable abbrev yb_X12_ofE (C : yC) : ySt → Option (Option Value × yM) := yrn m_X12_ofE C
theorem en_X12_ofE (n : Nat) (A : yM) (v0 : Int32) (v1 : Int32) : ycall (n + 1) 143 [.int v0, .int v1] A = some (some (.int (((21 : Int32) + ((5 : Int32) * v0)) + v1)), A) := (ybig_blk 9 _).trans (z_bipush cd_X12_ofE_0 kb_21 (p := 2) rfl (zgo rfl (z_iconst cd_X12_ofE_2 ki_5 (p := 3) rfl (zgo rfl (z_iload_n cd_X12_ofE_3 (j := 0) rfl rfl (p := 4) rfl (zgo rfl (z_imul cd_X12_ofE_4 (p := 5) rfl (zgo rfl (z_iadd cd_X12_ofE_5 (p := 6) rfl (zgo rfl (z_iload_n cd_X12_ofE_6 (j := 1) rfl rfl (p := 7) rfl (zgo rfl (z_iadd cd_X12_ofE_7 (p := 8) rfl (zgo rfl (z_iret cd_X12_ofE_8 rfl)))))))))))))))
theorem cd_X12_isStudent_0 : ylk m_X12_isStudent.2.2.2.2.1 0 = some (.iload_n 1) := by decide +kernel
theorem cd_X12_isStudent_1 : ylk m_X12_isStudent.2.2.2.2.1 1 = some (.iconst 0) := by decide +kernel
theorem cd_X12_isStudent_2 : ylk m_X12_isStudent.2.2.2.2.1 2 = some (.aload_n 0) := by decide +kernel
theorem cd_X12_isStudent_3 : ylk m_X12_isStudent.2.2.2.2.1 3 = some (.getfield 9) := by decide +kernel
theorem cd_X12_isStudent_6 : ylk m_X12_isStudent.2.2.2.2.1 6 = some (.iconst 0) := by decide +kernel
theorem cd_X12_isStudent_7 : ylk m_X12_isStudent.2.2.2.2.1 7 = some (.iaload) := by decide +kernel
theorem cd_X12_isStudent_8 : ylk m_X12_isStudent.2.2.2.2.1 8 = some (.iconst 1) := by decide +kernel
theorem cd_X12_isStudent_9 : ylk m_X12_isStudent.2.2.2.2.1 9 = some (.isub) := by decide +kernel
theorem cd_X12_isStudent_10 : ylk m_X12_isStudent.2.2.2.2.1 10 = some (.invokestatic 46) := by decide +kernel
theorem cd_X12_isStudent_13 : ylk m_X12_isStudent.2.2.2.2.1 13 = some (.ireturn) := by decide +kernel
noncomputable abbrev yb_X12_isStudent (C : yC) : ySt → Option (Option Value × yM) := yrn m_X12_isStudent C
theorem en_X12_isStudent (n : Nat) (A : yM) (v0 : Nat) (v1 : Int32) : ycall (n + 1) 144 [.ref v0, .int v1] A = ygR A v0 11 0 (fun a1 => yrd A a1 (0 : Int32) (fun x2 => (yi ((ycall n) 138 [.int v1, .int (0 : Int32), .int (x2 - (1 : Int32))] A)).bind (fun z3 => if z3.1 = 0 ∨ z3.1 = 1 then some (some (.int z3.1), z3.2) else none))) := (ybig_blk 11 _).trans (z_iload_n cd_X12_isStudent_0 (j := 1) rfl rfl (p := 1) rfl (zgo rfl (z_iconst cd_X12_isStudent_1 ki_0 (p := 2) rfl (zgo rfl (z_aload_n cd_X12_isStudent_2 (j := 0) rfl rfl (p := 3) rfl (zgo rfl (z_getR cd_X12_isStudent_3 fd_X12_9 (p := 6) rfl (fun _ => (zgo rfl (z_iconst cd_X12_isStudent_6 ki_0 (p := 7) rfl (zgo rfl (z_iaload cd_X12_isStudent_7 (p := 8) rfl (fun _ => (zgo rfl (z_iconst cd_X12_isStudent_8 ki_1 (p := 9) rfl (zgo rfl (z_isub cd_X12_isStudent_9 (p := 10) rfl (zgo rfl (z_cs1 cd_X12_isStudent_10 (zs (key := 139) (by decide)) cl_X12_c139 rfl rfl rfl rfl (p := 13) rfl (fun _ => (zgo rfl (z_zret cd_X12_isStudent_13 rfl))))))))))))))))))))))
theorem cd_X12_isError_0 : ylk m_X12_isError.2.2.2.2.1 0 = some (.iload_n 1) := by decide +kernel
theorem cd_X12_isError_1 : ylk m_X12_isError.2.2.2.2.1 1 = some (.iconst 0) := by decide +kernel
theorem cd_X12_isError_2 : ylk m_X12_isError.2.2.2.2.1 2 = some (.aload_n 0) := by decide +kernel
theorem cd_X12_isError_3 : ylk m_X12_isError.2.2.2.2.1 3 = some (.getfield 9) := by decide +kernel
theorem cd_X12_isError_6 : ylk m_X12_isError.2.2.2.2.1 6 = some (.iconst 1) := by decide +kernel
theorem cd_X12_isError_7 : ylk m_X12_isError.2.2.2.2.1 7 = some (.iaload) := by decide +kernel
theorem cd_X12_isError_8 : ylk m_X12_isError.2.2.2.2.1 8 = some (.iconst 1) := by decide +kernel
theorem cd_X12_isError_9 : ylk m_X12_isError.2.2.2.2.1 9 = some (.isub) := by decide +kernel
theorem cd_X12_isError_10 : ylk m_X12_isError.2.2.2.2.1 10 = some (.invokestatic 46) := by decide +kernel
theorem cd_X12_isError_13 : ylk m_X12_isError.2.2.2.2.1 13 = some (.ireturn) := by decide +kernel
noncomputable abbrev yb_X12_isError (C : yC) : ySt → Option (Option Value × yM) := yrn m_X12_isError C
theorem en_X12_isError (n : Nat) (A : yM) (v0 : Nat) (v1 : Int32) : ycall (n + 1) 145 [.ref v0, .int v1] A = ygR A v0 11 0 (fun a1 => yrd A a1 (1 : Int32) (fun x2 => (yi ((ycall n) 138 [.int v1, .int (0 : Int32), .int (x2 - (1 : Int32))] A)).bind (fun z3 => if z3.1 = 0 ∨ z3.1 = 1 then some (some (.int z3.1), z3.2) else none))) := (ybig_blk 11 _).trans (z_iload_n cd_X12_isError_0 (j := 1) rfl rfl (p := 1) rfl (zgo rfl (z_iconst cd_X12_isError_1 ki_0 (p := 2) rfl (zgo rfl (z_aload_n cd_X12_isError_2 (j := 0) rfl rfl (p := 3) rfl (zgo rfl (z_getR cd_X12_isError_3 fd_X12_9 (p := 6) rfl (fun _ => (zgo rfl (z_iconst cd_X12_isError_6 ki_1 (p := 7) rfl (zgo rfl (z_iaload cd_X12_isError_7 (p := 8) rfl (fun _ => (zgo rfl (z_iconst cd_X12_isError_8 ki_1 (p := 9) rfl (zgo rfl (z_isub cd_X12_isError_9 (p := 10) rfl (zgo rfl (z_cs1 cd_X12_isError_10 (zs (key := 139) (by decide)) cl_X12_c139 rfl rfl rfl rfl (p := 13) rfl (fun _ => (zgo rfl (z_zret cd_X12_isError_13 rfl))))))))))))))))))))))
theorem cd_X12_isThere_0 : ylk m_X12_isThere.2.2.2.2.1 0 = some (.aload_n 0) := by decide +kernel
theorem cd_X12_isThere_1 : ylk m_X12_isThere.2.2.2.2.1 1 = some (.iload_n 1) := by decide +kernel
theorem cd_X12_isThere_2 : ylk m_X12_isThere.2.2.2.2.1 2 = some (.iconst 2) := by decide +kernel
theorem cd_X12_isThere_3 : ylk m_X12_isThere.2.2.2.2.1 3 = some (.invokestatic 50) := by decide +kernel
theorem cd_X12_isThere_6 : ylk m_X12_isThere.2.2.2.2.1 6 = some (.iaload) := by decide +kernel
theorem cd_X12_isThere_7 : ylk m_X12_isThere.2.2.2.2.1 7 = some (.iconst 1) := by decide +kernel
theorem cd_X12_isThere_8 : ylk m_X12_isThere.2.2.2.2.1 8 = some (.if_icmp .ne 7) := by decide +kernel
theorem cd_X12_isThere_11 : ylk m_X12_isThere.2.2.2.2.1 11 = some (.iconst 1) := by decide +kernel
theorem cd_X12_isThere_12 : ylk m_X12_isThere.2.2.2.2.1 12 = some (.goto 4) := by decide +kernel
theorem cd_X12_isThere_15 : ylk m_X12_isThere.2.2.2.2.1 15 = some (.iconst 0) := by decide +kernel
theorem cd_X12_isThere_16 : ylk m_X12_isThere.2.2.2.2.1 16 = some (.ireturn) := by decide +kernel
noncomputable abbrev yb_X12_isThere (C : yC) : ySt → Option (Option Value × yM) := yrn m_X12_isThere C
theorem en_X12_isThere (n : Nat) (A : yM) (v0 : Nat) (v1 : Int32) : ycall (n + 1) 146 [.ref v0, .int v1] A = (yi ((ycall n) 142 [.int v1, .int (2 : Int32)] A)).bind (fun z1 => yrd z1.2 v0 z1.1 (fun x2 => if x2 = (1 : Int32) then (if (1 : Int32) = 0 ∨ (1 : Int32) = 1 then some (some (.int (1 : Int32)), z1.2) else none) else (if (0 : Int32) = 0 ∨ (0 : Int32) = 1 then some (some (.int (0 : Int32)), z1.2) else none))) := (ybig_blk 11 _).trans (z_aload_n cd_X12_isThere_0 (j := 0) rfl rfl (p := 1) rfl (zgo rfl (z_iload_n cd_X12_isThere_1 (j := 1) rfl rfl (p := 2) rfl (zgo rfl (z_iconst cd_X12_isThere_2 ki_2 (p := 3) rfl (zgo rfl (z_cs1 cd_X12_isThere_3 (zs (key := 151) (by decide)) cl_X12_c151 rfl rfl rfl rfl (p := 6) rfl (fun _ => (zgo rfl (z_iaload cd_X12_isThere_6 (p := 7) rfl (fun _ => (zgo rfl (z_iconst cd_X12_isThere_7 ki_1 (p := 8) rfl (zgo rfl (z_ic_ne cd_X12_isThere_8 (p := 15) rfl (p2 := 11) rfl (zgo rfl (z_iconst cd_X12_isThere_11 ki_1 (p := 12) rfl (zgo rfl (z_goto cd_X12_isThere_12 (p := 16) rfl (zgo rfl (z_zret cd_X12_isThere_16 rfl)))))) (zgo rfl (z_iconst cd_X12_isThere_15 ki_0 (p := 16) rfl (zgo rfl (z_zret cd_X12_isThere_16 rfl)))))))))))))))))))
theorem cd_X12_has_0 : ylk m_X12_has.2.2.2.2.1 0 = some (.iload_n 0) := by decide +kernel
theorem cd_X12_has_1 : ylk m_X12_has.2.2.2.2.1 1 = some (.iload_n 1) := by decide +kernel
theorem cd_X12_has_2 : ylk m_X12_has.2.2.2.2.1 2 = some (.ishr) := by decide +kernel
theorem cd_X12_has_3 : ylk m_X12_has.2.2.2.2.1 3 = some (.iconst 1) := by decide +kernel
theorem cd_X12_has_4 : ylk m_X12_has.2.2.2.2.1 4 = some (.iand) := by decide +kernel
theorem cd_X12_has_5 : ylk m_X12_has.2.2.2.2.1 5 = some (.iconst 1) := by decide +kernel
theorem cd_X12_has_6 : ylk m_X12_has.2.2.2.2.1 6 = some (.if_icmp .ne 7) := by decide +kernel
theorem cd_X12_has_9 : ylk m_X12_has.2.2.2.2.1 9 = some (.iconst 1) := by decide +kernel
theorem cd_X12_has_10 : ylk m_X12_has.2.2.2.2.1 10 = some (.goto 4) := by decide +kernel
theorem cd_X12_has_13 : ylk m_X12_has.2.2.2.2.1 13 = some (.iconst 0) := by decide +kernel
theorem cd_X12_has_14 : ylk m_X12_has.2.2.2.2.1 14 = some (.ireturn) := by decide +kernel
noncomputable abbrev yb_X12_has (C : yC) : ySt → Option (Option Value × yM) := yrn m_X12_has C
theorem en_X12_has (n : Nat) (A : yM) (v0 : Int32) (v1 : Int32) : ycall (n + 1) 147 [.int v0, .int v1] A = if ((v0 >>> (v1 &&& 31)) &&& (1 : Int32)) = (1 : Int32) then (if (1 : Int32) = 0 ∨ (1 : Int32) = 1 then some (some (.int (1 : Int32)), A) else none) else (if (0 : Int32) = 0 ∨ (0 : Int32) = 1 then some (some (.int (0 : Int32)), A) else none) := (ybig_blk 11 _).trans (z_iload_n cd_X12_has_0 (j := 0) rfl rfl (p := 1) rfl (zgo rfl (z_iload_n cd_X12_has_1 (j := 1) rfl rfl (p := 2) rfl (zgo rfl (z_ishr cd_X12_has_2 (p := 3) rfl (zgo rfl (z_iconst cd_X12_has_3 ki_1 (p := 4) rfl (zgo rfl (z_iand cd_X12_has_4 (p := 5) rfl (zgo rfl (z_iconst cd_X12_has_5 ki_1 (p := 6) rfl (zgo rfl (z_ic_ne cd_X12_has_6 (p := 13) rfl (p2 := 9) rfl (zgo rfl (z_iconst cd_X12_has_9 ki_1 (p := 10) rfl (zgo rfl (z_goto cd_X12_has_10 (p := 14) rfl (zgo rfl (z_zret cd_X12_has_14 rfl)))))) (zgo rfl (z_iconst cd_X12_has_13 ki_0 (p := 14) rfl (zgo rfl (z_zret cd_X12_has_14 rfl)))))))))))))))))
theorem cd_X12_bits_0 : ylk m_X12_bits.2.2.2.2.1 0 = some (.iconst 0) := by decide +kernel
theorem cd_X12_bits_1 : ylk m_X12_bits.2.2.2.2.1 1 = some (.istore_n 1) := by decide +kernel
theorem cd_X12_bits_2 : ylk m_X12_bits.2.2.2.2.1 2 = some (.iconst 0) := by decide +kernel
theorem cd_X12_bits_3 : ylk m_X12_bits.2.2.2.2.1 3 = some (.istore_n 2) := by decide +kernel
theorem cd_X12_bits_4 : ylk m_X12_bits.2.2.2.2.1 4 = some (.iload_n 2) := by decide +kernel
theorem cd_X12_bits_5 : ylk m_X12_bits.2.2.2.2.1 5 = some (.bipush 12) := by decide +kernel
theorem cd_X12_bits_7 : ylk m_X12_bits.2.2.2.2.1 7 = some (.if_icmp .ge 17) := by decide +kernel
theorem cd_X12_bits_10 : ylk m_X12_bits.2.2.2.2.1 10 = some (.iload_n 1) := by decide +kernel
theorem cd_X12_bits_11 : ylk m_X12_bits.2.2.2.2.1 11 = some (.iload_n 0) := by decide +kernel
theorem cd_X12_bits_12 : ylk m_X12_bits.2.2.2.2.1 12 = some (.iload_n 2) := by decide +kernel
theorem cd_X12_bits_13 : ylk m_X12_bits.2.2.2.2.1 13 = some (.ishr) := by decide +kernel
theorem cd_X12_bits_14 : ylk m_X12_bits.2.2.2.2.1 14 = some (.iconst 1) := by decide +kernel
theorem cd_X12_bits_15 : ylk m_X12_bits.2.2.2.2.1 15 = some (.iand) := by decide +kernel
theorem cd_X12_bits_16 : ylk m_X12_bits.2.2.2.2.1 16 = some (.iadd) := by decide +kernel
theorem cd_X12_bits_17 : ylk m_X12_bits.2.2.2.2.1 17 = some (.istore_n 1) := by decide +kernel
theorem cd_X12_bits_18 : ylk m_X12_bits.2.2.2.2.1 18 = some (.iinc 2 1) := by decide +kernel
theorem cd_X12_bits_21 : ylk m_X12_bits.2.2.2.2.1 21 = some (.goto (-17)) := by decide +kernel
theorem cd_X12_bits_24 : ylk m_X12_bits.2.2.2.2.1 24 = some (.iload_n 1) := by decide +kernel
theorem cd_X12_bits_25 : ylk m_X12_bits.2.2.2.2.1 25 = some (.ireturn) := by decide +kernel
noncomputable abbrev yb_X12_bits (C : yC) : ySt → Option (Option Value × yM) := yrn m_X12_bits C
theorem en_X12_bits (n : Nat) (A : yM) (v0 : Int32) : ycall (n + 1) 148 [.int v0] A = yb_X12_bits (ycall n) (4, [some (.int v0), some (.int (0 : Int32)), some (.int (0 : Int32))], [], A) := (ybig_blk 5 _).trans (z_iconst cd_X12_bits_0 ki_0 (p := 1) rfl (zgo rfl (z_istore_n cd_X12_bits_1 (j := 1) rfl rfl (p := 2) rfl (zgo rfl (z_iconst cd_X12_bits_2 ki_0 (p := 3) rfl (zgo rfl (z_istore_n cd_X12_bits_3 (j := 2) rfl rfl (p := 4) rfl (zcut (p := 4) rfl rfl))))))))
theorem bk_X12_bits_4 (C : yC) (A : yM) (v0 : Int32) (v1 : Int32) (v2 : Int32) : yb_X12_bits C (4, [some (.int v0), some (.int v1), some (.int v2)], [], A) = if (12 : Int32) ≤ v2 then (some (some (.int v1), A)) else (yb_X12_bits C (4, [some (.int v0), some (.int (v1 + ((v0 >>> (v2 &&& 31)) &&& (1 : Int32)))), some (.int (v2 + (1 : Int32)))], [], A)) := (ybig_blk 14 _).trans (z_iload_n cd_X12_bits_4 (j := 2) rfl rfl (p := 5) rfl (zgo rfl (z_bipush cd_X12_bits_5 kb_12 (p := 7) rfl (zgo rfl (z_ic_ge cd_X12_bits_7 (p := 24) rfl (p2 := 10) rfl (zgo rfl (z_iload_n cd_X12_bits_24 (j := 1) rfl rfl (p := 25) rfl (zgo rfl (z_iret cd_X12_bits_25 rfl)))) (zgo rfl (z_iload_n cd_X12_bits_10 (j := 1) rfl rfl (p := 11) rfl (zgo rfl (z_iload_n cd_X12_bits_11 (j := 0) rfl rfl (p := 12) rfl (zgo rfl (z_iload_n cd_X12_bits_12 (j := 2) rfl rfl (p := 13) rfl (zgo rfl (z_ishr cd_X12_bits_13 (p := 14) rfl (zgo rfl (z_iconst cd_X12_bits_14 ki_1 (p := 15) rfl (zgo rfl (z_iand cd_X12_bits_15 (p := 16) rfl (zgo rfl (z_iadd cd_X12_bits_16 (p := 17) rfl (zgo rfl (z_istore_n cd_X12_bits_17 (j := 1) rfl rfl (p := 18) rfl (zgo rfl (z_iinc cd_X12_bits_18 ki_1 rfl rfl (p := 21) rfl (zgo rfl (z_goto cd_X12_bits_21 (p := 4) rfl (zcut (p := 4) rfl rfl))))))))))))))))))))))))))
theorem cd_X12_ripens_0 : ylk m_X12_ripens.2.2.2.2.1 0 = some (.iload_n 2) := by decide +kernel
theorem cd_X12_ripens_1 : ylk m_X12_ripens.2.2.2.2.1 1 = some (.iconst 2) := by decide +kernel
theorem cd_X12_ripens_2 : ylk m_X12_ripens.2.2.2.2.1 2 = some (.irem) := by decide +kernel
theorem cd_X12_ripens_3 : ylk m_X12_ripens.2.2.2.2.1 3 = some (.istore_n 3) := by decide +kernel
theorem cd_X12_ripens_4 : ylk m_X12_ripens.2.2.2.2.1 4 = some (.iload_n 0) := by decide +kernel
theorem cd_X12_ripens_5 : ylk m_X12_ripens.2.2.2.2.1 5 = some (.tableswitch 59 1 7 #[43, 45, 47, 49, 55, 43, 57]) := by decide +kernel
theorem cd_X12_ripens_48 : ylk m_X12_ripens.2.2.2.2.1 48 = some (.iconst 2) := by decide +kernel
theorem cd_X12_ripens_49 : ylk m_X12_ripens.2.2.2.2.1 49 = some (.ireturn) := by decide +kernel
theorem cd_X12_ripens_50 : ylk m_X12_ripens.2.2.2.2.1 50 = some (.iload_n 3) := by decide +kernel
theorem cd_X12_ripens_51 : ylk m_X12_ripens.2.2.2.2.1 51 = some (.ireturn) := by decide +kernel
theorem cd_X12_ripens_52 : ylk m_X12_ripens.2.2.2.2.1 52 = some (.iconst 4) := by decide +kernel
theorem cd_X12_ripens_53 : ylk m_X12_ripens.2.2.2.2.1 53 = some (.ireturn) := by decide +kernel
theorem cd_X12_ripens_54 : ylk m_X12_ripens.2.2.2.2.1 54 = some (.iload_n 3) := by decide +kernel
theorem cd_X12_ripens_55 : ylk m_X12_ripens.2.2.2.2.1 55 = some (.iload_n 1) := by decide +kernel
theorem cd_X12_ripens_56 : ylk m_X12_ripens.2.2.2.2.1 56 = some (.iconst 3) := by decide +kernel
theorem cd_X12_ripens_57 : ylk m_X12_ripens.2.2.2.2.1 57 = some (.idiv) := by decide +kernel
theorem cd_X12_ripens_58 : ylk m_X12_ripens.2.2.2.2.1 58 = some (.iadd) := by decide +kernel
theorem cd_X12_ripens_59 : ylk m_X12_ripens.2.2.2.2.1 59 = some (.ireturn) := by decide +kernel
theorem cd_X12_ripens_60 : ylk m_X12_ripens.2.2.2.2.1 60 = some (.iconst 3) := by decide +kernel
theorem cd_X12_ripens_61 : ylk m_X12_ripens.2.2.2.2.1 61 = some (.ireturn) := by decide +kernel
theorem cd_X12_ripens_62 : ylk m_X12_ripens.2.2.2.2.1 62 = some (.iconst 0) := by decide +kernel
theorem cd_X12_ripens_63 : ylk m_X12_ripens.2.2.2.2.1 63 = some (.ireturn) := by decide +kernel
theorem cd_X12_ripens_64 : ylk m_X12_ripens.2.2.2.2.1 64 = some (.iconst 1) := by decide +kernel
theorem cd_X12_ripens_65 : ylk m_X12_ripens.2.2.2.2.1 65 = some (.ireturn) := by decide +kernel
noncomputable abbrev yb_X12_ripens (C : yC) : ySt → Option (Option Value × yM) := yrn m_X12_ripens C
theorem en_X12_ripens (n : Nat) (A : yM) (v0 : Int32) (v1 : Int32) (v2 : Int32) : ycall (n + 1) 149 [.int v0, .int v1, .int v2] A = if (2 : Int32) = 0 then none else (if v0 = (1 : Int32) then (some (some (.int (2 : Int32)), A)) else (if v0 = (2 : Int32) then (some (some (.int (v2 - v2 / (2 : Int32) * (2 : Int32))), A)) else (if v0 = (3 : Int32) then (some (some (.int (4 : Int32)), A)) else (if v0 = (4 : Int32) then (if (3 : Int32) = 0 then none else (some (some (.int ((v2 - v2 / (2 : Int32) * (2 : Int32)) + (v1 / (3 : Int32)))), A))) else (if v0 = (5 : Int32) then (some (some (.int (3 : Int32)), A)) else (if v0 = (6 : Int32) then (some (some (.int (2 : Int32)), A)) else (if v0 = (7 : Int32) then (some (some (.int (0 : Int32)), A)) else (some (some (.int (1 : Int32)), A))))))))) := (ybig_blk 13 _).trans (z_iload_n cd_X12_ripens_0 (j := 2) rfl rfl (p := 1) rfl (zgo rfl (z_iconst cd_X12_ripens_1 ki_2 (p := 2) rfl (zgo rfl (z_irem cd_X12_ripens_2 (p := 3) rfl (zgo rfl (z_istore_n cd_X12_ripens_3 (j := 3) rfl rfl (p := 4) rfl (zgo rfl (z_iload_n cd_X12_ripens_4 (j := 0) rfl rfl (p := 5) rfl (zgo rfl (z_sw cd_X12_ripens_5 (p := 64) rfl (ps := [(1, 48), (2, 50), (3, 52), (4, 54), (5, 60), (6, 48), (7, 62)]) rfl (z_swc ki_1 (zgo rfl (z_iconst cd_X12_ripens_48 ki_2 (p := 49) rfl (zgo rfl (z_iret cd_X12_ripens_49 rfl)))) (z_swc ki_2 (zgo rfl (z_iload_n cd_X12_ripens_50 (j := 3) rfl rfl (p := 51) rfl (zgo rfl (z_iret cd_X12_ripens_51 rfl)))) (z_swc ki_3 (zgo rfl (z_iconst cd_X12_ripens_52 ki_4 (p := 53) rfl (zgo rfl (z_iret cd_X12_ripens_53 rfl)))) (z_swc ki_4 (zgo rfl (z_iload_n cd_X12_ripens_54 (j := 3) rfl rfl (p := 55) rfl (zgo rfl (z_iload_n cd_X12_ripens_55 (j := 1) rfl rfl (p := 56) rfl (zgo rfl (z_iconst cd_X12_ripens_56 ki_3 (p := 57) rfl (zgo rfl (z_idiv cd_X12_ripens_57 (p := 58) rfl (zgo rfl (z_iadd cd_X12_ripens_58 (p := 59) rfl (zgo rfl (z_iret cd_X12_ripens_59 rfl)))))))))))) (z_swc ki_5 (zgo rfl (z_iconst cd_X12_ripens_60 ki_3 (p := 61) rfl (zgo rfl (z_iret cd_X12_ripens_61 rfl)))) (z_swc ki_6 (zgo rfl (z_iconst cd_X12_ripens_48 ki_2 (p := 49) rfl (zgo rfl (z_iret cd_X12_ripens_49 rfl)))) (z_swc ki_7 (zgo rfl (z_iconst cd_X12_ripens_62 ki_0 (p := 63) rfl (zgo rfl (z_iret cd_X12_ripens_63 rfl)))) (z_swn (zgo rfl (z_iconst cd_X12_ripens_64 ki_1 (p := 65) rfl (zgo rfl (z_iret cd_X12_ripens_65 rfl)))))))))))))))))))))))
theorem cd_X12_marked_0 : ylk m_X12_marked.2.2.2.2.1 0 = some (.iload_n 0) := by decide +kernel
theorem cd_X12_marked_1 : ylk m_X12_marked.2.2.2.2.1 1 = some (.tableswitch 84 1 7 #[43, 49, 53, 62, 69, 77, 82]) := by decide +kernel
theorem cd_X12_marked_44 : ylk m_X12_marked.2.2.2.2.1 44 = some (.iload_n 2) := by decide +kernel
theorem cd_X12_marked_45 : ylk m_X12_marked.2.2.2.2.1 45 = some (.iconst 2) := by decide +kernel
theorem cd_X12_marked_46 : ylk m_X12_marked.2.2.2.2.1 46 = some (.iload_n 3) := by decide +kernel
theorem cd_X12_marked_47 : ylk m_X12_marked.2.2.2.2.1 47 = some (.imul) := by decide +kernel
theorem cd_X12_marked_48 : ylk m_X12_marked.2.2.2.2.1 48 = some (.iadd) := by decide +kernel
theorem cd_X12_marked_49 : ylk m_X12_marked.2.2.2.2.1 49 = some (.ireturn) := by decide +kernel
theorem cd_X12_marked_50 : ylk m_X12_marked.2.2.2.2.1 50 = some (.iload_n 2) := by decide +kernel
theorem cd_X12_marked_51 : ylk m_X12_marked.2.2.2.2.1 51 = some (.iconst 2) := by decide +kernel
theorem cd_X12_marked_52 : ylk m_X12_marked.2.2.2.2.1 52 = some (.idiv) := by decide +kernel
theorem cd_X12_marked_53 : ylk m_X12_marked.2.2.2.2.1 53 = some (.ireturn) := by decide +kernel
theorem cd_X12_marked_54 : ylk m_X12_marked.2.2.2.2.1 54 = some (.iload_n 2) := by decide +kernel
theorem cd_X12_marked_55 : ylk m_X12_marked.2.2.2.2.1 55 = some (.iconst 2) := by decide +kernel
theorem cd_X12_marked_56 : ylk m_X12_marked.2.2.2.2.1 56 = some (.iload_n 3) := by decide +kernel
theorem cd_X12_marked_57 : ylk m_X12_marked.2.2.2.2.1 57 = some (.imul) := by decide +kernel
theorem cd_X12_marked_58 : ylk m_X12_marked.2.2.2.2.1 58 = some (.iadd) := by decide +kernel
theorem cd_X12_marked_59 : ylk m_X12_marked.2.2.2.2.1 59 = some (.iload 4) := by decide +kernel
theorem cd_X12_marked_61 : ylk m_X12_marked.2.2.2.2.1 61 = some (.iadd) := by decide +kernel
theorem cd_X12_marked_62 : ylk m_X12_marked.2.2.2.2.1 62 = some (.ireturn) := by decide +kernel
theorem cd_X12_marked_63 : ylk m_X12_marked.2.2.2.2.1 63 = some (.iload_n 2) := by decide +kernel
theorem cd_X12_marked_64 : ylk m_X12_marked.2.2.2.2.1 64 = some (.iconst 2) := by decide +kernel
theorem cd_X12_marked_65 : ylk m_X12_marked.2.2.2.2.1 65 = some (.idiv) := by decide +kernel
theorem cd_X12_marked_66 : ylk m_X12_marked.2.2.2.2.1 66 = some (.iload 4) := by decide +kernel
theorem cd_X12_marked_68 : ylk m_X12_marked.2.2.2.2.1 68 = some (.iadd) := by decide +kernel
theorem cd_X12_marked_69 : ylk m_X12_marked.2.2.2.2.1 69 = some (.ireturn) := by decide +kernel
theorem cd_X12_marked_70 : ylk m_X12_marked.2.2.2.2.1 70 = some (.iload_n 2) := by decide +kernel
theorem cd_X12_marked_71 : ylk m_X12_marked.2.2.2.2.1 71 = some (.iconst 2) := by decide +kernel
theorem cd_X12_marked_72 : ylk m_X12_marked.2.2.2.2.1 72 = some (.iload_n 3) := by decide +kernel
theorem cd_X12_marked_73 : ylk m_X12_marked.2.2.2.2.1 73 = some (.imul) := by decide +kernel
theorem cd_X12_marked_74 : ylk m_X12_marked.2.2.2.2.1 74 = some (.iadd) := by decide +kernel
theorem cd_X12_marked_75 : ylk m_X12_marked.2.2.2.2.1 75 = some (.iload_n 1) := by decide +kernel
theorem cd_X12_marked_76 : ylk m_X12_marked.2.2.2.2.1 76 = some (.iadd) := by decide +kernel
theorem cd_X12_marked_77 : ylk m_X12_marked.2.2.2.2.1 77 = some (.ireturn) := by decide +kernel
theorem cd_X12_marked_78 : ylk m_X12_marked.2.2.2.2.1 78 = some (.iconst 2) := by decide +kernel
theorem cd_X12_marked_79 : ylk m_X12_marked.2.2.2.2.1 79 = some (.iload 4) := by decide +kernel
theorem cd_X12_marked_81 : ylk m_X12_marked.2.2.2.2.1 81 = some (.imul) := by decide +kernel
theorem cd_X12_marked_82 : ylk m_X12_marked.2.2.2.2.1 82 = some (.ireturn) := by decide +kernel
theorem cd_X12_marked_83 : ylk m_X12_marked.2.2.2.2.1 83 = some (.iconst 0) := by decide +kernel
theorem cd_X12_marked_84 : ylk m_X12_marked.2.2.2.2.1 84 = some (.ireturn) := by decide +kernel
theorem cd_X12_marked_85 : ylk m_X12_marked.2.2.2.2.1 85 = some (.iload_n 2) := by decide +kernel
theorem cd_X12_marked_86 : ylk m_X12_marked.2.2.2.2.1 86 = some (.ireturn) := by decide +kernel
noncomputable abbrev yb_X12_marked (C : yC) : ySt → Option (Option Value × yM) := yrn m_X12_marked C
theorem en_X12_marked (n : Nat) (A : yM) (v0 : Int32) (v1 : Int32) (v2 : Int32) (v3 : Int32) (v4 : Int32) : ycall (n + 1) 150 [.int v0, .int v1, .int v2, .int v3, .int v4] A = (if v0 = (1 : Int32) then (some (some (.int (v2 + ((2 : Int32) * v3))), A)) else (if v0 = (2 : Int32) then (if (2 : Int32) = 0 then none else (some (some (.int (v2 / (2 : Int32))), A))) else (if v0 = (3 : Int32) then (some (some (.int ((v2 + ((2 : Int32) * v3)) + v4)), A)) else (if v0 = (4 : Int32) then (if (2 : Int32) = 0 then none else (some (some (.int ((v2 / (2 : Int32)) + v4)), A))) else (if v0 = (5 : Int32) then (some (some (.int ((v2 + ((2 : Int32) * v3)) + v1)), A)) else (if v0 = (6 : Int32) then (some (some (.int ((2 : Int32) * v4)), A)) else (if v0 = (7 : Int32) then (some (some (.int (0 : Int32)), A)) else (some (some (.int v2), A))))))))) := (ybig_blk 11 _).trans (z_iload_n cd_X12_marked_0 (j := 0) rfl rfl (p := 1) rfl (zgo rfl (z_sw cd_X12_marked_1 (p := 85) rfl (ps := [(1, 44), (2, 50), (3, 54), (4, 63), (5, 70), (6, 78), (7, 83)]) rfl (z_swc ki_1 (zgo rfl (z_iload_n cd_X12_marked_44 (j := 2) rfl rfl (p := 45) rfl (zgo rfl (z_iconst cd_X12_marked_45 ki_2 (p := 46) rfl (zgo rfl (z_iload_n cd_X12_marked_46 (j := 3) rfl rfl (p := 47) rfl (zgo rfl (z_imul cd_X12_marked_47 (p := 48) rfl (zgo rfl (z_iadd cd_X12_marked_48 (p := 49) rfl (zgo rfl (z_iret cd_X12_marked_49 rfl)))))))))))) (z_swc ki_2 (zgo rfl (z_iload_n cd_X12_marked_50 (j := 2) rfl rfl (p := 51) rfl (zgo rfl (z_iconst cd_X12_marked_51 ki_2 (p := 52) rfl (zgo rfl (z_idiv cd_X12_marked_52 (p := 53) rfl (zgo rfl (z_iret cd_X12_marked_53 rfl)))))))) (z_swc ki_3 (zgo rfl (z_iload_n cd_X12_marked_54 (j := 2) rfl rfl (p := 55) rfl (zgo rfl (z_iconst cd_X12_marked_55 ki_2 (p := 56) rfl (zgo rfl (z_iload_n cd_X12_marked_56 (j := 3) rfl rfl (p := 57) rfl (zgo rfl (z_imul cd_X12_marked_57 (p := 58) rfl (zgo rfl (z_iadd cd_X12_marked_58 (p := 59) rfl (zgo rfl (z_iload cd_X12_marked_59 rfl (p := 61) rfl (zgo rfl (z_iadd cd_X12_marked_61 (p := 62) rfl (zgo rfl (z_iret cd_X12_marked_62 rfl)))))))))))))))) (z_swc ki_4 (zgo rfl (z_iload_n cd_X12_marked_63 (j := 2) rfl rfl (p := 64) rfl (zgo rfl (z_iconst cd_X12_marked_64 ki_2 (p := 65) rfl (zgo rfl (z_idiv cd_X12_marked_65 (p := 66) rfl (zgo rfl (z_iload cd_X12_marked_66 rfl (p := 68) rfl (zgo rfl (z_iadd cd_X12_marked_68 (p := 69) rfl (zgo rfl (z_iret cd_X12_marked_69 rfl)))))))))))) (z_swc ki_5 (zgo rfl (z_iload_n cd_X12_marked_70 (j := 2) rfl rfl (p := 71) rfl (zgo rfl (z_iconst cd_X12_marked_71 ki_2 (p := 72) rfl (zgo rfl (z_iload_n cd_X12_marked_72 (j := 3) rfl rfl (p := 73) rfl (zgo rfl (z_imul cd_X12_marked_73 (p := 74) rfl (zgo rfl (z_iadd cd_X12_marked_74 (p := 75) rfl (zgo rfl (z_iload_n cd_X12_marked_75 (j := 1) rfl rfl (p := 76) rfl (zgo rfl (z_iadd cd_X12_marked_76 (p := 77) rfl (zgo rfl (z_iret cd_X12_marked_77 rfl)))))))))))))))) (z_swc ki_6 (zgo rfl (z_iconst cd_X12_marked_78 ki_2 (p := 79) rfl (zgo rfl (z_iload cd_X12_marked_79 rfl (p := 81) rfl (zgo rfl (z_imul cd_X12_marked_81 (p := 82) rfl (zgo rfl (z_iret cd_X12_marked_82 rfl)))))))) (z_swc ki_7 (zgo rfl (z_iconst cd_X12_marked_83 ki_0 (p := 84) rfl (zgo rfl (z_iret cd_X12_marked_84 rfl)))) (z_swn (zgo rfl (z_iload_n cd_X12_marked_85 (j := 2) rfl rfl (p := 86) rfl (zgo rfl (z_iret cd_X12_marked_86 rfl)))))))))))))))
theorem cd_X12_citedIn_0 : ylk m_X12_citedIn.2.2.2.2.1 0 = some (.iconst 0) := by decide +kernel
theorem cd_X12_citedIn_1 : ylk m_X12_citedIn.2.2.2.2.1 1 = some (.istore_n 2) := by decide +kernel
theorem cd_X12_citedIn_2 : ylk m_X12_citedIn.2.2.2.2.1 2 = some (.iconst 0) := by decide +kernel
theorem cd_X12_citedIn_3 : ylk m_X12_citedIn.2.2.2.2.1 3 = some (.istore_n 3) := by decide +kernel
theorem cd_X12_citedIn_4 : ylk m_X12_citedIn.2.2.2.2.1 4 = some (.iload_n 3) := by decide +kernel
theorem cd_X12_citedIn_5 : ylk m_X12_citedIn.2.2.2.2.1 5 = some (.aload_n 0) := by decide +kernel
theorem cd_X12_citedIn_6 : ylk m_X12_citedIn.2.2.2.2.1 6 = some (.iconst 1) := by decide +kernel
theorem cd_X12_citedIn_7 : ylk m_X12_citedIn.2.2.2.2.1 7 = some (.iaload) := by decide +kernel
theorem cd_X12_citedIn_8 : ylk m_X12_citedIn.2.2.2.2.1 8 = some (.if_icmp .ge 28) := by decide +kernel
theorem cd_X12_citedIn_11 : ylk m_X12_citedIn.2.2.2.2.1 11 = some (.iload_n 2) := by decide +kernel
theorem cd_X12_citedIn_12 : ylk m_X12_citedIn.2.2.2.2.1 12 = some (.aload_n 0) := by decide +kernel
theorem cd_X12_citedIn_13 : ylk m_X12_citedIn.2.2.2.2.1 13 = some (.iload_n 3) := by decide +kernel
theorem cd_X12_citedIn_14 : ylk m_X12_citedIn.2.2.2.2.1 14 = some (.iconst 3) := by decide +kernel
theorem cd_X12_citedIn_15 : ylk m_X12_citedIn.2.2.2.2.1 15 = some (.invokestatic 54) := by decide +kernel
theorem cd_X12_citedIn_18 : ylk m_X12_citedIn.2.2.2.2.1 18 = some (.iaload) := by decide +kernel
theorem cd_X12_citedIn_19 : ylk m_X12_citedIn.2.2.2.2.1 19 = some (.iload_n 1) := by decide +kernel
theorem cd_X12_citedIn_20 : ylk m_X12_citedIn.2.2.2.2.1 20 = some (.if_icmp .ne 7) := by decide +kernel
theorem cd_X12_citedIn_23 : ylk m_X12_citedIn.2.2.2.2.1 23 = some (.iconst 1) := by decide +kernel
theorem cd_X12_citedIn_24 : ylk m_X12_citedIn.2.2.2.2.1 24 = some (.goto 4) := by decide +kernel
theorem cd_X12_citedIn_27 : ylk m_X12_citedIn.2.2.2.2.1 27 = some (.iconst 0) := by decide +kernel
theorem cd_X12_citedIn_28 : ylk m_X12_citedIn.2.2.2.2.1 28 = some (.iadd) := by decide +kernel
theorem cd_X12_citedIn_29 : ylk m_X12_citedIn.2.2.2.2.1 29 = some (.istore_n 2) := by decide +kernel
theorem cd_X12_citedIn_30 : ylk m_X12_citedIn.2.2.2.2.1 30 = some (.iinc 3 1) := by decide +kernel
theorem cd_X12_citedIn_33 : ylk m_X12_citedIn.2.2.2.2.1 33 = some (.goto (-29)) := by decide +kernel
theorem cd_X12_citedIn_36 : ylk m_X12_citedIn.2.2.2.2.1 36 = some (.iload_n 2) := by decide +kernel
theorem cd_X12_citedIn_37 : ylk m_X12_citedIn.2.2.2.2.1 37 = some (.ireturn) := by decide +kernel
noncomputable abbrev yb_X12_citedIn (C : yC) : ySt → Option (Option Value × yM) := yrn m_X12_citedIn C
theorem en_X12_citedIn (n : Nat) (A : yM) (v0 : Nat) (v1 : Int32) : ycall (n + 1) 151 [.ref v0, .int v1] A = yb_X12_citedIn (ycall n) (4, [some (.ref v0), some (.int v1), some (.int (0 : Int32)), some (.int (0 : Int32))], [], A) := (ybig_blk 5 _).trans (z_iconst cd_X12_citedIn_0 ki_0 (p := 1) rfl (zgo rfl (z_istore_n cd_X12_citedIn_1 (j := 2) rfl rfl (p := 2) rfl (zgo rfl (z_iconst cd_X12_citedIn_2 ki_0 (p := 3) rfl (zgo rfl (z_istore_n cd_X12_citedIn_3 (j := 3) rfl rfl (p := 4) rfl (zcut (p := 4) rfl rfl))))))))
theorem bk_X12_citedIn_4 (C : yC) (A : yM) (v0 : Nat) (v1 : Int32) (v2 : Int32) (v3 : Int32) : yb_X12_citedIn C (4, [some (.ref v0), some (.int v1), some (.int v2), some (.int v3)], [], A) = yrd A v0 (1 : Int32) (fun x1 => if x1 ≤ v3 then (some (some (.int v2), A)) else ((yi (C 143 [.int v3, .int (3 : Int32)] A)).bind (fun z2 => yrd z2.2 v0 z2.1 (fun x3 => if x3 = v1 then (yb_X12_citedIn C (4, [some (.ref v0), some (.int v1), some (.int (v2 + (1 : Int32))), some (.int (v3 + (1 : Int32)))], [], z2.2)) else (yb_X12_citedIn C (4, [some (.ref v0), some (.int v1), some (.int (v2 + (0 : Int32))), some (.int (v3 + (1 : Int32)))], [], z2.2)))))) := (ybig_blk 20 _).trans (z_iload_n cd_X12_citedIn_4 (j := 3) rfl rfl (p := 5) rfl (zgo rfl (z_aload_n cd_X12_citedIn_5 (j := 0) rfl rfl (p := 6) rfl (zgo rfl (z_iconst cd_X12_citedIn_6 ki_1 (p := 7) rfl (zgo rfl (z_iaload cd_X12_citedIn_7 (p := 8) rfl (fun _ => (zgo rfl (z_ic_ge cd_X12_citedIn_8 (p := 36) rfl (p2 := 11) rfl (zgo rfl (z_iload_n cd_X12_citedIn_36 (j := 2) rfl rfl (p := 37) rfl (zgo rfl (z_iret cd_X12_citedIn_37 rfl)))) (zgo rfl (z_iload_n cd_X12_citedIn_11 (j := 2) rfl rfl (p := 12) rfl (zgo rfl (z_aload_n cd_X12_citedIn_12 (j := 0) rfl rfl (p := 13) rfl (zgo rfl (z_iload_n cd_X12_citedIn_13 (j := 3) rfl rfl (p := 14) rfl (zgo rfl (z_iconst cd_X12_citedIn_14 ki_3 (p := 15) rfl (zgo rfl (z_cs1 cd_X12_citedIn_15 (zs (key := 163) (by decide)) cl_X12_c163 rfl rfl rfl rfl (p := 18) rfl (fun _ => (zgo rfl (z_iaload cd_X12_citedIn_18 (p := 19) rfl (fun _ => (zgo rfl (z_iload_n cd_X12_citedIn_19 (j := 1) rfl rfl (p := 20) rfl (zgo rfl (z_ic_ne cd_X12_citedIn_20 (p := 27) rfl (p2 := 23) rfl (zgo rfl (z_iconst cd_X12_citedIn_23 ki_1 (p := 24) rfl (zgo rfl (z_goto cd_X12_citedIn_24 (p := 28) rfl (zgo rfl (z_iadd cd_X12_citedIn_28 (p := 29) rfl (zgo rfl (z_istore_n cd_X12_citedIn_29 (j := 2) rfl rfl (p := 30) rfl (zgo rfl (z_iinc cd_X12_citedIn_30 ki_1 rfl rfl (p := 33) rfl (zgo rfl (z_goto cd_X12_citedIn_33 (p := 4) rfl (zcut (p := 4) rfl rfl))))))))))))) (zgo rfl (z_iconst cd_X12_citedIn_27 ki_0 (p := 28) rfl (zgo rfl (z_iadd cd_X12_citedIn_28 (p := 29) rfl (zgo rfl (z_istore_n cd_X12_citedIn_29 (j := 2) rfl rfl (p := 30) rfl (zgo rfl (z_iinc cd_X12_citedIn_30 ki_1 rfl rfl (p := 33) rfl (zgo rfl (z_goto cd_X12_citedIn_33 (p := 4) rfl (zcut (p := 4) rfl rfl)))))))))))))))))))))))))))))))))))))))
theorem cd_X12_noveltyIn_0 : ylk m_X12_noveltyIn.2.2.2.2.1 0 = some (.bipush 99) := by decide +kernel
theorem cd_X12_noveltyIn_2 : ylk m_X12_noveltyIn.2.2.2.2.1 2 = some (.istore_n 2) := by decide +kernel
theorem cd_X12_noveltyIn_3 : ylk m_X12_noveltyIn.2.2.2.2.1 3 = some (.iconst 0) := by decide +kernel
theorem cd_X12_noveltyIn_4 : ylk m_X12_noveltyIn.2.2.2.2.1 4 = some (.istore_n 3) := by decide +kernel
theorem cd_X12_noveltyIn_5 : ylk m_X12_noveltyIn.2.2.2.2.1 5 = some (.iload_n 3) := by decide +kernel
theorem cd_X12_noveltyIn_6 : ylk m_X12_noveltyIn.2.2.2.2.1 6 = some (.aload_n 0) := by decide +kernel
theorem cd_X12_noveltyIn_7 : ylk m_X12_noveltyIn.2.2.2.2.1 7 = some (.iconst 1) := by decide +kernel
theorem cd_X12_noveltyIn_8 : ylk m_X12_noveltyIn.2.2.2.2.1 8 = some (.iaload) := by decide +kernel
theorem cd_X12_noveltyIn_9 : ylk m_X12_noveltyIn.2.2.2.2.1 9 = some (.if_icmp .ge 53) := by decide +kernel
theorem cd_X12_noveltyIn_12 : ylk m_X12_noveltyIn.2.2.2.2.1 12 = some (.iload_n 3) := by decide +kernel
theorem cd_X12_noveltyIn_13 : ylk m_X12_noveltyIn.2.2.2.2.1 13 = some (.iload_n 1) := by decide +kernel
theorem cd_X12_noveltyIn_14 : ylk m_X12_noveltyIn.2.2.2.2.1 14 = some (.if_icmp .eq 42) := by decide +kernel
theorem cd_X12_noveltyIn_17 : ylk m_X12_noveltyIn.2.2.2.2.1 17 = some (.aload_n 0) := by decide +kernel
theorem cd_X12_noveltyIn_18 : ylk m_X12_noveltyIn.2.2.2.2.1 18 = some (.iload_n 3) := by decide +kernel
theorem cd_X12_noveltyIn_19 : ylk m_X12_noveltyIn.2.2.2.2.1 19 = some (.iconst 1) := by decide +kernel
theorem cd_X12_noveltyIn_20 : ylk m_X12_noveltyIn.2.2.2.2.1 20 = some (.invokestatic 54) := by decide +kernel
theorem cd_X12_noveltyIn_23 : ylk m_X12_noveltyIn.2.2.2.2.1 23 = some (.iaload) := by decide +kernel
theorem cd_X12_noveltyIn_24 : ylk m_X12_noveltyIn.2.2.2.2.1 24 = some (.aload_n 0) := by decide +kernel
theorem cd_X12_noveltyIn_25 : ylk m_X12_noveltyIn.2.2.2.2.1 25 = some (.iload_n 1) := by decide +kernel
theorem cd_X12_noveltyIn_26 : ylk m_X12_noveltyIn.2.2.2.2.1 26 = some (.iconst 1) := by decide +kernel
theorem cd_X12_noveltyIn_27 : ylk m_X12_noveltyIn.2.2.2.2.1 27 = some (.invokestatic 54) := by decide +kernel
theorem cd_X12_noveltyIn_30 : ylk m_X12_noveltyIn.2.2.2.2.1 30 = some (.iaload) := by decide +kernel
theorem cd_X12_noveltyIn_31 : ylk m_X12_noveltyIn.2.2.2.2.1 31 = some (.if_icmp .ne 25) := by decide +kernel
theorem cd_X12_noveltyIn_34 : ylk m_X12_noveltyIn.2.2.2.2.1 34 = some (.iload_n 2) := by decide +kernel
theorem cd_X12_noveltyIn_35 : ylk m_X12_noveltyIn.2.2.2.2.1 35 = some (.aload_n 0) := by decide +kernel
theorem cd_X12_noveltyIn_36 : ylk m_X12_noveltyIn.2.2.2.2.1 36 = some (.iload_n 3) := by decide +kernel
theorem cd_X12_noveltyIn_37 : ylk m_X12_noveltyIn.2.2.2.2.1 37 = some (.iconst 2) := by decide +kernel
theorem cd_X12_noveltyIn_38 : ylk m_X12_noveltyIn.2.2.2.2.1 38 = some (.invokestatic 54) := by decide +kernel
theorem cd_X12_noveltyIn_41 : ylk m_X12_noveltyIn.2.2.2.2.1 41 = some (.iaload) := by decide +kernel
theorem cd_X12_noveltyIn_42 : ylk m_X12_noveltyIn.2.2.2.2.1 42 = some (.aload_n 0) := by decide +kernel
theorem cd_X12_noveltyIn_43 : ylk m_X12_noveltyIn.2.2.2.2.1 43 = some (.iload_n 1) := by decide +kernel
theorem cd_X12_noveltyIn_44 : ylk m_X12_noveltyIn.2.2.2.2.1 44 = some (.iconst 2) := by decide +kernel
theorem cd_X12_noveltyIn_45 : ylk m_X12_noveltyIn.2.2.2.2.1 45 = some (.invokestatic 54) := by decide +kernel
theorem cd_X12_noveltyIn_48 : ylk m_X12_noveltyIn.2.2.2.2.1 48 = some (.iaload) := by decide +kernel
theorem cd_X12_noveltyIn_49 : ylk m_X12_noveltyIn.2.2.2.2.1 49 = some (.invokestatic 57) := by decide +kernel
theorem cd_X12_noveltyIn_52 : ylk m_X12_noveltyIn.2.2.2.2.1 52 = some (.invokestatic 60) := by decide +kernel
theorem cd_X12_noveltyIn_55 : ylk m_X12_noveltyIn.2.2.2.2.1 55 = some (.istore_n 2) := by decide +kernel
theorem cd_X12_noveltyIn_56 : ylk m_X12_noveltyIn.2.2.2.2.1 56 = some (.iinc 3 1) := by decide +kernel
theorem cd_X12_noveltyIn_59 : ylk m_X12_noveltyIn.2.2.2.2.1 59 = some (.goto (-54)) := by decide +kernel
theorem cd_X12_noveltyIn_62 : ylk m_X12_noveltyIn.2.2.2.2.1 62 = some (.iload_n 2) := by decide +kernel
theorem cd_X12_noveltyIn_63 : ylk m_X12_noveltyIn.2.2.2.2.1 63 = some (.ireturn) := by decide +kernel
noncomputable abbrev yb_X12_noveltyIn (C : yC) : ySt → Option (Option Value × yM) := yrn m_X12_noveltyIn C
theorem en_X12_noveltyIn (n : Nat) (A : yM) (v0 : Nat) (v1 : Int32) : ycall (n + 1) 152 [.ref v0, .int v1] A = yb_X12_noveltyIn (ycall n) (5, [some (.ref v0), some (.int v1), some (.int (99 : Int32)), some (.int (0 : Int32))], [], A) := (ybig_blk 5 _).trans (z_bipush cd_X12_noveltyIn_0 kb_99 (p := 2) rfl (zgo rfl (z_istore_n cd_X12_noveltyIn_2 (j := 2) rfl rfl (p := 3) rfl (zgo rfl (z_iconst cd_X12_noveltyIn_3 ki_0 (p := 4) rfl (zgo rfl (z_istore_n cd_X12_noveltyIn_4 (j := 3) rfl rfl (p := 5) rfl (zcut (p := 5) rfl rfl))))))))
theorem bk_X12_noveltyIn_5 (C : yC) (A : yM) (v0 : Nat) (v1 : Int32) (v2 : Int32) (v3 : Int32) : yb_X12_noveltyIn C (5, [some (.ref v0), some (.int v1), some (.int v2), some (.int v3)], [], A) = yrd A v0 (1 : Int32) (fun x1 => if x1 ≤ v3 then (some (some (.int v2), A)) else (if v3 = v1 then (yb_X12_noveltyIn C (5, [some (.ref v0), some (.int v1), some (.int v2), some (.int (v3 + (1 : Int32)))], [], A)) else ((yi (C 143 [.int v3, .int (1 : Int32)] A)).bind (fun z2 => yrd z2.2 v0 z2.1 (fun x3 => (yi (C 143 [.int v1, .int (1 : Int32)] z2.2)).bind (fun z4 => yrd z4.2 v0 z4.1 (fun x5 => if x3 = x5 then ((yi (C 143 [.int v3, .int (2 : Int32)] z4.2)).bind (fun z6 => yrd z6.2 v0 z6.1 (fun x7 => (yi (C 143 [.int v1, .int (2 : Int32)] z6.2)).bind (fun z8 => yrd z8.2 v0 z8.1 (fun x9 => (yi (C 140 [.int x7, .int x9] z8.2)).bind (fun z10 => (yi (C 139 [.int v2, .int z10.1] z10.2)).bind (fun z11 => yb_X12_noveltyIn C (5, [some (.ref v0), some (.int v1), some (.int z11.1), some (.int (v3 + (1 : Int32)))], [], z11.2)))))))) else (yb_X12_noveltyIn C (5, [some (.ref v0), some (.int v1), some (.int v2), some (.int (v3 + (1 : Int32)))], [], z4.2))))))))) := (ybig_blk 36 _).trans (z_iload_n cd_X12_noveltyIn_5 (j := 3) rfl rfl (p := 6) rfl (zgo rfl (z_aload_n cd_X12_noveltyIn_6 (j := 0) rfl rfl (p := 7) rfl (zgo rfl (z_iconst cd_X12_noveltyIn_7 ki_1 (p := 8) rfl (zgo rfl (z_iaload cd_X12_noveltyIn_8 (p := 9) rfl (fun _ => (zgo rfl (z_ic_ge cd_X12_noveltyIn_9 (p := 62) rfl (p2 := 12) rfl (zgo rfl (z_iload_n cd_X12_noveltyIn_62 (j := 2) rfl rfl (p := 63) rfl (zgo rfl (z_iret cd_X12_noveltyIn_63 rfl)))) (zgo rfl (z_iload_n cd_X12_noveltyIn_12 (j := 3) rfl rfl (p := 13) rfl (zgo rfl (z_iload_n cd_X12_noveltyIn_13 (j := 1) rfl rfl (p := 14) rfl (zgo rfl (z_ic_eq cd_X12_noveltyIn_14 (p := 56) rfl (p2 := 17) rfl (zgo rfl (z_iinc cd_X12_noveltyIn_56 ki_1 rfl rfl (p := 59) rfl (zgo rfl (z_goto cd_X12_noveltyIn_59 (p := 5) rfl (zcut (p := 5) rfl rfl))))) (zgo rfl (z_aload_n cd_X12_noveltyIn_17 (j := 0) rfl rfl (p := 18) rfl (zgo rfl (z_iload_n cd_X12_noveltyIn_18 (j := 3) rfl rfl (p := 19) rfl (zgo rfl (z_iconst cd_X12_noveltyIn_19 ki_1 (p := 20) rfl (zgo rfl (z_cs1 cd_X12_noveltyIn_20 (zs (key := 163) (by decide)) cl_X12_c163 rfl rfl rfl rfl (p := 23) rfl (fun _ => (zgo rfl (z_iaload cd_X12_noveltyIn_23 (p := 24) rfl (fun _ => (zgo rfl (z_aload_n cd_X12_noveltyIn_24 (j := 0) rfl rfl (p := 25) rfl (zgo rfl (z_iload_n cd_X12_noveltyIn_25 (j := 1) rfl rfl (p := 26) rfl (zgo rfl (z_iconst cd_X12_noveltyIn_26 ki_1 (p := 27) rfl (zgo rfl (z_cs1 cd_X12_noveltyIn_27 (zs (key := 163) (by decide)) cl_X12_c163 rfl rfl rfl rfl (p := 30) rfl (fun _ => (zgo rfl (z_iaload cd_X12_noveltyIn_30 (p := 31) rfl (fun _ => (zgo rfl (z_ic_ne cd_X12_noveltyIn_31 (p := 56) rfl (p2 := 34) rfl (zgo rfl (z_iload_n cd_X12_noveltyIn_34 (j := 2) rfl rfl (p := 35) rfl (zgo rfl (z_aload_n cd_X12_noveltyIn_35 (j := 0) rfl rfl (p := 36) rfl (zgo rfl (z_iload_n cd_X12_noveltyIn_36 (j := 3) rfl rfl (p := 37) rfl (zgo rfl (z_iconst cd_X12_noveltyIn_37 ki_2 (p := 38) rfl (zgo rfl (z_cs1 cd_X12_noveltyIn_38 (zs (key := 163) (by decide)) cl_X12_c163 rfl rfl rfl rfl (p := 41) rfl (fun _ => (zgo rfl (z_iaload cd_X12_noveltyIn_41 (p := 42) rfl (fun _ => (zgo rfl (z_aload_n cd_X12_noveltyIn_42 (j := 0) rfl rfl (p := 43) rfl (zgo rfl (z_iload_n cd_X12_noveltyIn_43 (j := 1) rfl rfl (p := 44) rfl (zgo rfl (z_iconst cd_X12_noveltyIn_44 ki_2 (p := 45) rfl (zgo rfl (z_cs1 cd_X12_noveltyIn_45 (zs (key := 163) (by decide)) cl_X12_c163 rfl rfl rfl rfl (p := 48) rfl (fun _ => (zgo rfl (z_iaload cd_X12_noveltyIn_48 (p := 49) rfl (fun _ => (zgo rfl (z_cs1 cd_X12_noveltyIn_49 (zs (key := 172) (by decide)) cl_X12_c172 rfl rfl rfl rfl (p := 52) rfl (fun _ => (zgo rfl (z_cs1 cd_X12_noveltyIn_52 (zs (key := 181) (by decide)) cl_X12_c181 rfl rfl rfl rfl (p := 55) rfl (fun _ => (zgo rfl (z_istore_n cd_X12_noveltyIn_55 (j := 2) rfl rfl (p := 56) rfl (zgo rfl (z_iinc cd_X12_noveltyIn_56 ki_1 rfl rfl (p := 59) rfl (zgo rfl (z_goto cd_X12_noveltyIn_59 (p := 5) rfl (zcut (p := 5) rfl rfl))))))))))))))))))))))))))))))))))))))) (zgo rfl (z_iinc cd_X12_noveltyIn_56 ki_1 rfl rfl (p := 59) rfl (zgo rfl (z_goto cd_X12_noveltyIn_59 (p := 5) rfl (zcut (p := 5) rfl rfl)))))))))))))))))))))))))))))))))))))))))))))))
theorem cd_X12_markOf_0 : ylk m_X12_markOf.2.2.2.2.1 0 = some (.aload_n 0) := by decide +kernel
theorem cd_X12_markOf_1 : ylk m_X12_markOf.2.2.2.2.1 1 = some (.iload_n 1) := by decide +kernel
theorem cd_X12_markOf_2 : ylk m_X12_markOf.2.2.2.2.1 2 = some (.iconst 0) := by decide +kernel
theorem cd_X12_markOf_3 : ylk m_X12_markOf.2.2.2.2.1 3 = some (.invokestatic 54) := by decide +kernel
theorem cd_X12_markOf_6 : ylk m_X12_markOf.2.2.2.2.1 6 = some (.iaload) := by decide +kernel
theorem cd_X12_markOf_7 : ylk m_X12_markOf.2.2.2.2.1 7 = some (.istore_n 2) := by decide +kernel
theorem cd_X12_markOf_8 : ylk m_X12_markOf.2.2.2.2.1 8 = some (.aload_n 0) := by decide +kernel
theorem cd_X12_markOf_9 : ylk m_X12_markOf.2.2.2.2.1 9 = some (.iload_n 1) := by decide +kernel
theorem cd_X12_markOf_10 : ylk m_X12_markOf.2.2.2.2.1 10 = some (.iconst 4) := by decide +kernel
theorem cd_X12_markOf_11 : ylk m_X12_markOf.2.2.2.2.1 11 = some (.invokestatic 54) := by decide +kernel
theorem cd_X12_markOf_14 : ylk m_X12_markOf.2.2.2.2.1 14 = some (.iaload) := by decide +kernel
theorem cd_X12_markOf_15 : ylk m_X12_markOf.2.2.2.2.1 15 = some (.iconst 1) := by decide +kernel
theorem cd_X12_markOf_16 : ylk m_X12_markOf.2.2.2.2.1 16 = some (.if_icmp .ne 7) := by decide +kernel
theorem cd_X12_markOf_19 : ylk m_X12_markOf.2.2.2.2.1 19 = some (.iconst 0) := by decide +kernel
theorem cd_X12_markOf_20 : ylk m_X12_markOf.2.2.2.2.1 20 = some (.goto 37) := by decide +kernel
theorem cd_X12_markOf_23 : ylk m_X12_markOf.2.2.2.2.1 23 = some (.aload_n 0) := by decide +kernel
theorem cd_X12_markOf_24 : ylk m_X12_markOf.2.2.2.2.1 24 = some (.iload_n 2) := by decide +kernel
theorem cd_X12_markOf_25 : ylk m_X12_markOf.2.2.2.2.1 25 = some (.iconst 0) := by decide +kernel
theorem cd_X12_markOf_26 : ylk m_X12_markOf.2.2.2.2.1 26 = some (.invokestatic 50) := by decide +kernel
theorem cd_X12_markOf_29 : ylk m_X12_markOf.2.2.2.2.1 29 = some (.iaload) := by decide +kernel
theorem cd_X12_markOf_30 : ylk m_X12_markOf.2.2.2.2.1 30 = some (.aload_n 0) := by decide +kernel
theorem cd_X12_markOf_31 : ylk m_X12_markOf.2.2.2.2.1 31 = some (.iload_n 2) := by decide +kernel
theorem cd_X12_markOf_32 : ylk m_X12_markOf.2.2.2.2.1 32 = some (.iconst 1) := by decide +kernel
theorem cd_X12_markOf_33 : ylk m_X12_markOf.2.2.2.2.1 33 = some (.invokestatic 50) := by decide +kernel
theorem cd_X12_markOf_36 : ylk m_X12_markOf.2.2.2.2.1 36 = some (.iaload) := by decide +kernel
theorem cd_X12_markOf_37 : ylk m_X12_markOf.2.2.2.2.1 37 = some (.aload_n 0) := by decide +kernel
theorem cd_X12_markOf_38 : ylk m_X12_markOf.2.2.2.2.1 38 = some (.iload_n 1) := by decide +kernel
theorem cd_X12_markOf_39 : ylk m_X12_markOf.2.2.2.2.1 39 = some (.iconst 2) := by decide +kernel
theorem cd_X12_markOf_40 : ylk m_X12_markOf.2.2.2.2.1 40 = some (.invokestatic 54) := by decide +kernel
theorem cd_X12_markOf_43 : ylk m_X12_markOf.2.2.2.2.1 43 = some (.iaload) := by decide +kernel
theorem cd_X12_markOf_44 : ylk m_X12_markOf.2.2.2.2.1 44 = some (.aload_n 0) := by decide +kernel
theorem cd_X12_markOf_45 : ylk m_X12_markOf.2.2.2.2.1 45 = some (.iload_n 1) := by decide +kernel
theorem cd_X12_markOf_46 : ylk m_X12_markOf.2.2.2.2.1 46 = some (.invokestatic 63) := by decide +kernel
theorem cd_X12_markOf_49 : ylk m_X12_markOf.2.2.2.2.1 49 = some (.aload_n 0) := by decide +kernel
theorem cd_X12_markOf_50 : ylk m_X12_markOf.2.2.2.2.1 50 = some (.iload_n 1) := by decide +kernel
theorem cd_X12_markOf_51 : ylk m_X12_markOf.2.2.2.2.1 51 = some (.invokestatic 67) := by decide +kernel
theorem cd_X12_markOf_54 : ylk m_X12_markOf.2.2.2.2.1 54 = some (.invokestatic 70) := by decide +kernel
theorem cd_X12_markOf_57 : ylk m_X12_markOf.2.2.2.2.1 57 = some (.ireturn) := by decide +kernel
noncomputable abbrev yb_X12_markOf (C : yC) : ySt → Option (Option Value × yM) := yrn m_X12_markOf C
theorem en_X12_markOf (n : Nat) (A : yM) (v0 : Nat) (v1 : Int32) : ycall (n + 1) 153 [.ref v0, .int v1] A = (yi ((ycall n) 143 [.int v1, .int (0 : Int32)] A)).bind (fun z1 => yrd z1.2 v0 z1.1 (fun x2 => (yi ((ycall n) 143 [.int v1, .int (4 : Int32)] z1.2)).bind (fun z3 => yrd z3.2 v0 z3.1 (fun x4 => if x4 = (1 : Int32) then (some (some (.int (0 : Int32)), z3.2)) else ((yi ((ycall n) 142 [.int x2, .int (0 : Int32)] z3.2)).bind (fun z5 => yrd z5.2 v0 z5.1 (fun x6 => (yi ((ycall n) 142 [.int x2, .int (1 : Int32)] z5.2)).bind (fun z7 => yrd z7.2 v0 z7.1 (fun x8 => (yi ((ycall n) 143 [.int v1, .int (2 : Int32)] z7.2)).bind (fun z9 => yrd z9.2 v0 z9.1 (fun x10 => (yi ((ycall n) 151 [.ref v0, .int v1] z9.2)).bind (fun z11 => (yi ((ycall n) 152 [.ref v0, .int v1] z11.2)).bind (fun z12 => (yi ((ycall n) 150 [.int x6, .int x8, .int x10, .int z11.1, .int z12.1] z12.2)).bind (fun z13 => some (some (.int z13.1), z13.2))))))))))))))) := (ybig_blk 37 _).trans (z_aload_n cd_X12_markOf_0 (j := 0) rfl rfl (p := 1) rfl (zgo rfl (z_iload_n cd_X12_markOf_1 (j := 1) rfl rfl (p := 2) rfl (zgo rfl (z_iconst cd_X12_markOf_2 ki_0 (p := 3) rfl (zgo rfl (z_cs1 cd_X12_markOf_3 (zs (key := 163) (by decide)) cl_X12_c163 rfl rfl rfl rfl (p := 6) rfl (fun _ => (zgo rfl (z_iaload cd_X12_markOf_6 (p := 7) rfl (fun _ => (zgo rfl (z_istore_n cd_X12_markOf_7 (j := 2) rfl rfl (p := 8) rfl (zgo rfl (z_aload_n cd_X12_markOf_8 (j := 0) rfl rfl (p := 9) rfl (zgo rfl (z_iload_n cd_X12_markOf_9 (j := 1) rfl rfl (p := 10) rfl (zgo rfl (z_iconst cd_X12_markOf_10 ki_4 (p := 11) rfl (zgo rfl (z_cs1 cd_X12_markOf_11 (zs (key := 163) (by decide)) cl_X12_c163 rfl rfl rfl rfl (p := 14) rfl (fun _ => (zgo rfl (z_iaload cd_X12_markOf_14 (p := 15) rfl (fun _ => (zgo rfl (z_iconst cd_X12_markOf_15 ki_1 (p := 16) rfl (zgo rfl (z_ic_ne cd_X12_markOf_16 (p := 23) rfl (p2 := 19) rfl (zgo rfl (z_iconst cd_X12_markOf_19 ki_0 (p := 20) rfl (zgo rfl (z_goto cd_X12_markOf_20 (p := 57) rfl (zgo rfl (z_iret cd_X12_markOf_57 rfl)))))) (zgo rfl (z_aload_n cd_X12_markOf_23 (j := 0) rfl rfl (p := 24) rfl (zgo rfl (z_iload_n cd_X12_markOf_24 (j := 2) rfl rfl (p := 25) rfl (zgo rfl (z_iconst cd_X12_markOf_25 ki_0 (p := 26) rfl (zgo rfl (z_cs1 cd_X12_markOf_26 (zs (key := 151) (by decide)) cl_X12_c151 rfl rfl rfl rfl (p := 29) rfl (fun _ => (zgo rfl (z_iaload cd_X12_markOf_29 (p := 30) rfl (fun _ => (zgo rfl (z_aload_n cd_X12_markOf_30 (j := 0) rfl rfl (p := 31) rfl (zgo rfl (z_iload_n cd_X12_markOf_31 (j := 2) rfl rfl (p := 32) rfl (zgo rfl (z_iconst cd_X12_markOf_32 ki_1 (p := 33) rfl (zgo rfl (z_cs1 cd_X12_markOf_33 (zs (key := 151) (by decide)) cl_X12_c151 rfl rfl rfl rfl (p := 36) rfl (fun _ => (zgo rfl (z_iaload cd_X12_markOf_36 (p := 37) rfl (fun _ => (zgo rfl (z_aload_n cd_X12_markOf_37 (j := 0) rfl rfl (p := 38) rfl (zgo rfl (z_iload_n cd_X12_markOf_38 (j := 1) rfl rfl (p := 39) rfl (zgo rfl (z_iconst cd_X12_markOf_39 ki_2 (p := 40) rfl (zgo rfl (z_cs1 cd_X12_markOf_40 (zs (key := 163) (by decide)) cl_X12_c163 rfl rfl rfl rfl (p := 43) rfl (fun _ => (zgo rfl (z_iaload cd_X12_markOf_43 (p := 44) rfl (fun _ => (zgo rfl (z_aload_n cd_X12_markOf_44 (j := 0) rfl rfl (p := 45) rfl (zgo rfl (z_iload_n cd_X12_markOf_45 (j := 1) rfl rfl (p := 46) rfl (zgo rfl (z_cs1 cd_X12_markOf_46 (zs (key := 190) (by decide)) cl_X12_c190 rfl rfl rfl rfl (p := 49) rfl (fun _ => (zgo rfl (z_aload_n cd_X12_markOf_49 (j := 0) rfl rfl (p := 50) rfl (zgo rfl (z_iload_n cd_X12_markOf_50 (j := 1) rfl rfl (p := 51) rfl (zgo rfl (z_cs1 cd_X12_markOf_51 (zs (key := 202) (by decide)) cl_X12_c202 rfl rfl rfl rfl (p := 54) rfl (fun _ => (zgo rfl (z_cs1 cd_X12_markOf_54 (zs (key := 211) (by decide)) cl_X12_c211 rfl rfl rfl rfl (p := 57) rfl (fun _ => (zgo rfl (z_iret cd_X12_markOf_57 rfl))))))))))))))))))))))))))))))))))))))))))))))))))))))))))))))))))))))))))))))))))))
theorem cd_X12_marksOf_0 : ylk m_X12_marksOf.2.2.2.2.1 0 = some (.iconst 0) := by decide +kernel
theorem cd_X12_marksOf_1 : ylk m_X12_marksOf.2.2.2.2.1 1 = some (.istore_n 2) := by decide +kernel
theorem cd_X12_marksOf_2 : ylk m_X12_marksOf.2.2.2.2.1 2 = some (.iconst 0) := by decide +kernel
theorem cd_X12_marksOf_3 : ylk m_X12_marksOf.2.2.2.2.1 3 = some (.istore_n 3) := by decide +kernel
theorem cd_X12_marksOf_4 : ylk m_X12_marksOf.2.2.2.2.1 4 = some (.iload_n 3) := by decide +kernel
theorem cd_X12_marksOf_5 : ylk m_X12_marksOf.2.2.2.2.1 5 = some (.aload_n 0) := by decide +kernel
theorem cd_X12_marksOf_6 : ylk m_X12_marksOf.2.2.2.2.1 6 = some (.iconst 1) := by decide +kernel
theorem cd_X12_marksOf_7 : ylk m_X12_marksOf.2.2.2.2.1 7 = some (.iaload) := by decide +kernel
theorem cd_X12_marksOf_8 : ylk m_X12_marksOf.2.2.2.2.1 8 = some (.if_icmp .ge 32) := by decide +kernel
theorem cd_X12_marksOf_11 : ylk m_X12_marksOf.2.2.2.2.1 11 = some (.iload_n 2) := by decide +kernel
theorem cd_X12_marksOf_12 : ylk m_X12_marksOf.2.2.2.2.1 12 = some (.aload_n 0) := by decide +kernel
theorem cd_X12_marksOf_13 : ylk m_X12_marksOf.2.2.2.2.1 13 = some (.iload_n 3) := by decide +kernel
theorem cd_X12_marksOf_14 : ylk m_X12_marksOf.2.2.2.2.1 14 = some (.iconst 0) := by decide +kernel
theorem cd_X12_marksOf_15 : ylk m_X12_marksOf.2.2.2.2.1 15 = some (.invokestatic 54) := by decide +kernel
theorem cd_X12_marksOf_18 : ylk m_X12_marksOf.2.2.2.2.1 18 = some (.iaload) := by decide +kernel
theorem cd_X12_marksOf_19 : ylk m_X12_marksOf.2.2.2.2.1 19 = some (.iload_n 1) := by decide +kernel
theorem cd_X12_marksOf_20 : ylk m_X12_marksOf.2.2.2.2.1 20 = some (.if_icmp .ne 11) := by decide +kernel
theorem cd_X12_marksOf_23 : ylk m_X12_marksOf.2.2.2.2.1 23 = some (.aload_n 0) := by decide +kernel
theorem cd_X12_marksOf_24 : ylk m_X12_marksOf.2.2.2.2.1 24 = some (.iload_n 3) := by decide +kernel
theorem cd_X12_marksOf_25 : ylk m_X12_marksOf.2.2.2.2.1 25 = some (.invokestatic 74) := by decide +kernel
theorem cd_X12_marksOf_28 : ylk m_X12_marksOf.2.2.2.2.1 28 = some (.goto 4) := by decide +kernel
theorem cd_X12_marksOf_31 : ylk m_X12_marksOf.2.2.2.2.1 31 = some (.iconst 0) := by decide +kernel
theorem cd_X12_marksOf_32 : ylk m_X12_marksOf.2.2.2.2.1 32 = some (.iadd) := by decide +kernel
theorem cd_X12_marksOf_33 : ylk m_X12_marksOf.2.2.2.2.1 33 = some (.istore_n 2) := by decide +kernel
theorem cd_X12_marksOf_34 : ylk m_X12_marksOf.2.2.2.2.1 34 = some (.iinc 3 1) := by decide +kernel
theorem cd_X12_marksOf_37 : ylk m_X12_marksOf.2.2.2.2.1 37 = some (.goto (-33)) := by decide +kernel
theorem cd_X12_marksOf_40 : ylk m_X12_marksOf.2.2.2.2.1 40 = some (.iload_n 2) := by decide +kernel
theorem cd_X12_marksOf_41 : ylk m_X12_marksOf.2.2.2.2.1 41 = some (.ireturn) := by decide +kernel
noncomputable abbrev yb_X12_marksOf (C : yC) : ySt → Option (Option Value × yM) := yrn m_X12_marksOf C
theorem en_X12_marksOf (n : Nat) (A : yM) (v0 : Nat) (v1 : Int32) : ycall (n + 1) 154 [.ref v0, .int v1] A = yb_X12_marksOf (ycall n) (4, [some (.ref v0), some (.int v1), some (.int (0 : Int32)), some (.int (0 : Int32))], [], A) := (ybig_blk 5 _).trans (z_iconst cd_X12_marksOf_0 ki_0 (p := 1) rfl (zgo rfl (z_istore_n cd_X12_marksOf_1 (j := 2) rfl rfl (p := 2) rfl (zgo rfl (z_iconst cd_X12_marksOf_2 ki_0 (p := 3) rfl (zgo rfl (z_istore_n cd_X12_marksOf_3 (j := 3) rfl rfl (p := 4) rfl (zcut (p := 4) rfl rfl))))))))
theorem bk_X12_marksOf_4 (C : yC) (A : yM) (v0 : Nat) (v1 : Int32) (v2 : Int32) (v3 : Int32) : yb_X12_marksOf C (4, [some (.ref v0), some (.int v1), some (.int v2), some (.int v3)], [], A) = yrd A v0 (1 : Int32) (fun x1 => if x1 ≤ v3 then (some (some (.int v2), A)) else ((yi (C 143 [.int v3, .int (0 : Int32)] A)).bind (fun z2 => yrd z2.2 v0 z2.1 (fun x3 => if x3 = v1 then ((yi (C 153 [.ref v0, .int v3] z2.2)).bind (fun z4 => yb_X12_marksOf C (4, [some (.ref v0), some (.int v1), some (.int (v2 + z4.1)), some (.int (v3 + (1 : Int32)))], [], z4.2))) else (yb_X12_marksOf C (4, [some (.ref v0), some (.int v1), some (.int (v2 + (0 : Int32))), some (.int (v3 + (1 : Int32)))], [], z2.2)))))) := (ybig_blk 22 _).trans (z_iload_n cd_X12_marksOf_4 (j := 3) rfl rfl (p := 5) rfl (zgo rfl (z_aload_n cd_X12_marksOf_5 (j := 0) rfl rfl (p := 6) rfl (zgo rfl (z_iconst cd_X12_marksOf_6 ki_1 (p := 7) rfl (zgo rfl (z_iaload cd_X12_marksOf_7 (p := 8) rfl (fun _ => (zgo rfl (z_ic_ge cd_X12_marksOf_8 (p := 40) rfl (p2 := 11) rfl (zgo rfl (z_iload_n cd_X12_marksOf_40 (j := 2) rfl rfl (p := 41) rfl (zgo rfl (z_iret cd_X12_marksOf_41 rfl)))) (zgo rfl (z_iload_n cd_X12_marksOf_11 (j := 2) rfl rfl (p := 12) rfl (zgo rfl (z_aload_n cd_X12_marksOf_12 (j := 0) rfl rfl (p := 13) rfl (zgo rfl (z_iload_n cd_X12_marksOf_13 (j := 3) rfl rfl (p := 14) rfl (zgo rfl (z_iconst cd_X12_marksOf_14 ki_0 (p := 15) rfl (zgo rfl (z_cs1 cd_X12_marksOf_15 (zs (key := 163) (by decide)) cl_X12_c163 rfl rfl rfl rfl (p := 18) rfl (fun _ => (zgo rfl (z_iaload cd_X12_marksOf_18 (p := 19) rfl (fun _ => (zgo rfl (z_iload_n cd_X12_marksOf_19 (j := 1) rfl rfl (p := 20) rfl (zgo rfl (z_ic_ne cd_X12_marksOf_20 (p := 31) rfl (p2 := 23) rfl (zgo rfl (z_aload_n cd_X12_marksOf_23 (j := 0) rfl rfl (p := 24) rfl (zgo rfl (z_iload_n cd_X12_marksOf_24 (j := 3) rfl rfl (p := 25) rfl (zgo rfl (z_cs1 cd_X12_marksOf_25 (zs (key := 223) (by decide)) cl_X12_c223 rfl rfl rfl rfl (p := 28) rfl (fun _ => (zgo rfl (z_goto cd_X12_marksOf_28 (p := 32) rfl (zgo rfl (z_iadd cd_X12_marksOf_32 (p := 33) rfl (zgo rfl (z_istore_n cd_X12_marksOf_33 (j := 2) rfl rfl (p := 34) rfl (zgo rfl (z_iinc cd_X12_marksOf_34 ki_1 rfl rfl (p := 37) rfl (zgo rfl (z_goto cd_X12_marksOf_37 (p := 4) rfl (zcut (p := 4) rfl rfl)))))))))))))))))) (zgo rfl (z_iconst cd_X12_marksOf_31 ki_0 (p := 32) rfl (zgo rfl (z_iadd cd_X12_marksOf_32 (p := 33) rfl (zgo rfl (z_istore_n cd_X12_marksOf_33 (j := 2) rfl rfl (p := 34) rfl (zgo rfl (z_iinc cd_X12_marksOf_34 ki_1 rfl rfl (p := 37) rfl (zgo rfl (z_goto cd_X12_marksOf_37 (p := 4) rfl (zcut (p := 4) rfl rfl)))))))))))))))))))))))))))))))))))))))
theorem cd_X12_allMarks_0 : ylk m_X12_allMarks.2.2.2.2.1 0 = some (.iconst 0) := by decide +kernel
theorem cd_X12_allMarks_1 : ylk m_X12_allMarks.2.2.2.2.1 1 = some (.istore_n 1) := by decide +kernel
theorem cd_X12_allMarks_2 : ylk m_X12_allMarks.2.2.2.2.1 2 = some (.iconst 0) := by decide +kernel
theorem cd_X12_allMarks_3 : ylk m_X12_allMarks.2.2.2.2.1 3 = some (.istore_n 2) := by decide +kernel
theorem cd_X12_allMarks_4 : ylk m_X12_allMarks.2.2.2.2.1 4 = some (.iload_n 2) := by decide +kernel
theorem cd_X12_allMarks_5 : ylk m_X12_allMarks.2.2.2.2.1 5 = some (.aload_n 0) := by decide +kernel
theorem cd_X12_allMarks_6 : ylk m_X12_allMarks.2.2.2.2.1 6 = some (.iconst 1) := by decide +kernel
theorem cd_X12_allMarks_7 : ylk m_X12_allMarks.2.2.2.2.1 7 = some (.iaload) := by decide +kernel
theorem cd_X12_allMarks_8 : ylk m_X12_allMarks.2.2.2.2.1 8 = some (.if_icmp .ge 17) := by decide +kernel
theorem cd_X12_allMarks_11 : ylk m_X12_allMarks.2.2.2.2.1 11 = some (.iload_n 1) := by decide +kernel
theorem cd_X12_allMarks_12 : ylk m_X12_allMarks.2.2.2.2.1 12 = some (.aload_n 0) := by decide +kernel
theorem cd_X12_allMarks_13 : ylk m_X12_allMarks.2.2.2.2.1 13 = some (.iload_n 2) := by decide +kernel
theorem cd_X12_allMarks_14 : ylk m_X12_allMarks.2.2.2.2.1 14 = some (.invokestatic 74) := by decide +kernel
theorem cd_X12_allMarks_17 : ylk m_X12_allMarks.2.2.2.2.1 17 = some (.iadd) := by decide +kernel
theorem cd_X12_allMarks_18 : ylk m_X12_allMarks.2.2.2.2.1 18 = some (.istore_n 1) := by decide +kernel
theorem cd_X12_allMarks_19 : ylk m_X12_allMarks.2.2.2.2.1 19 = some (.iinc 2 1) := by decide +kernel
theorem cd_X12_allMarks_22 : ylk m_X12_allMarks.2.2.2.2.1 22 = some (.goto (-18)) := by decide +kernel
theorem cd_X12_allMarks_25 : ylk m_X12_allMarks.2.2.2.2.1 25 = some (.iload_n 1) := by decide +kernel
theorem cd_X12_allMarks_26 : ylk m_X12_allMarks.2.2.2.2.1 26 = some (.ireturn) := by decide +kernel
noncomputable abbrev yb_X12_allMarks (C : yC) : ySt → Option (Option Value × yM) := yrn m_X12_allMarks C
theorem en_X12_allMarks (n : Nat) (A : yM) (v0 : Nat) : ycall (n + 1) 155 [.ref v0] A = yb_X12_allMarks (ycall n) (4, [some (.ref v0), some (.int (0 : Int32)), some (.int (0 : Int32))], [], A) := (ybig_blk 5 _).trans (z_iconst cd_X12_allMarks_0 ki_0 (p := 1) rfl (zgo rfl (z_istore_n cd_X12_allMarks_1 (j := 1) rfl rfl (p := 2) rfl (zgo rfl (z_iconst cd_X12_allMarks_2 ki_0 (p := 3) rfl (zgo rfl (z_istore_n cd_X12_allMarks_3 (j := 2) rfl rfl (p := 4) rfl (zcut (p := 4) rfl rfl))))))))
theorem bk_X12_allMarks_4 (C : yC) (A : yM) (v0 : Nat) (v1 : Int32) (v2 : Int32) : yb_X12_allMarks C (4, [some (.ref v0), some (.int v1), some (.int v2)], [], A) = yrd A v0 (1 : Int32) (fun x1 => if x1 ≤ v2 then (some (some (.int v1), A)) else ((yi (C 153 [.ref v0, .int v2] A)).bind (fun z2 => yb_X12_allMarks C (4, [some (.ref v0), some (.int (v1 + z2.1)), some (.int (v2 + (1 : Int32)))], [], z2.2)))) := (ybig_blk 14 _).trans (z_iload_n cd_X12_allMarks_4 (j := 2) rfl rfl (p := 5) rfl (zgo rfl (z_aload_n cd_X12_allMarks_5 (j := 0) rfl rfl (p := 6) rfl (zgo rfl (z_iconst cd_X12_allMarks_6 ki_1 (p := 7) rfl (zgo rfl (z_iaload cd_X12_allMarks_7 (p := 8) rfl (fun _ => (zgo rfl (z_ic_ge cd_X12_allMarks_8 (p := 25) rfl (p2 := 11) rfl (zgo rfl (z_iload_n cd_X12_allMarks_25 (j := 1) rfl rfl (p := 26) rfl (zgo rfl (z_iret cd_X12_allMarks_26 rfl)))) (zgo rfl (z_iload_n cd_X12_allMarks_11 (j := 1) rfl rfl (p := 12) rfl (zgo rfl (z_aload_n cd_X12_allMarks_12 (j := 0) rfl rfl (p := 13) rfl (zgo rfl (z_iload_n cd_X12_allMarks_13 (j := 2) rfl rfl (p := 14) rfl (zgo rfl (z_cs1 cd_X12_allMarks_14 (zs (key := 223) (by decide)) cl_X12_c223 rfl rfl rfl rfl (p := 17) rfl (fun _ => (zgo rfl (z_iadd cd_X12_allMarks_17 (p := 18) rfl (zgo rfl (z_istore_n cd_X12_allMarks_18 (j := 1) rfl rfl (p := 19) rfl (zgo rfl (z_iinc cd_X12_allMarks_19 ki_1 rfl rfl (p := 22) rfl (zgo rfl (z_goto cd_X12_allMarks_22 (p := 4) rfl (zcut (p := 4) rfl rfl))))))))))))))))))))))))))))
theorem cd_X12_rankOf_0 : ylk m_X12_rankOf.2.2.2.2.1 0 = some (.aload_n 0) := by decide +kernel
theorem cd_X12_rankOf_1 : ylk m_X12_rankOf.2.2.2.2.1 1 = some (.iload_n 1) := by decide +kernel
theorem cd_X12_rankOf_2 : ylk m_X12_rankOf.2.2.2.2.1 2 = some (.invokestatic 77) := by decide +kernel
theorem cd_X12_rankOf_5 : ylk m_X12_rankOf.2.2.2.2.1 5 = some (.istore_n 2) := by decide +kernel
theorem cd_X12_rankOf_6 : ylk m_X12_rankOf.2.2.2.2.1 6 = some (.iconst 0) := by decide +kernel
theorem cd_X12_rankOf_7 : ylk m_X12_rankOf.2.2.2.2.1 7 = some (.istore_n 3) := by decide +kernel
theorem cd_X12_rankOf_8 : ylk m_X12_rankOf.2.2.2.2.1 8 = some (.iconst 0) := by decide +kernel
theorem cd_X12_rankOf_9 : ylk m_X12_rankOf.2.2.2.2.1 9 = some (.istore 4) := by decide +kernel
theorem cd_X12_rankOf_11 : ylk m_X12_rankOf.2.2.2.2.1 11 = some (.iload 4) := by decide +kernel
theorem cd_X12_rankOf_13 : ylk m_X12_rankOf.2.2.2.2.1 13 = some (.aload_n 0) := by decide +kernel
theorem cd_X12_rankOf_14 : ylk m_X12_rankOf.2.2.2.2.1 14 = some (.iconst 0) := by decide +kernel
theorem cd_X12_rankOf_15 : ylk m_X12_rankOf.2.2.2.2.1 15 = some (.iaload) := by decide +kernel
theorem cd_X12_rankOf_16 : ylk m_X12_rankOf.2.2.2.2.1 16 = some (.if_icmp .ge 49) := by decide +kernel
theorem cd_X12_rankOf_19 : ylk m_X12_rankOf.2.2.2.2.1 19 = some (.iload_n 3) := by decide +kernel
theorem cd_X12_rankOf_20 : ylk m_X12_rankOf.2.2.2.2.1 20 = some (.iload 4) := by decide +kernel
theorem cd_X12_rankOf_22 : ylk m_X12_rankOf.2.2.2.2.1 22 = some (.iload_n 1) := by decide +kernel
theorem cd_X12_rankOf_23 : ylk m_X12_rankOf.2.2.2.2.1 23 = some (.if_icmp .eq 33) := by decide +kernel
theorem cd_X12_rankOf_26 : ylk m_X12_rankOf.2.2.2.2.1 26 = some (.aload_n 0) := by decide +kernel
theorem cd_X12_rankOf_27 : ylk m_X12_rankOf.2.2.2.2.1 27 = some (.iload 4) := by decide +kernel
theorem cd_X12_rankOf_29 : ylk m_X12_rankOf.2.2.2.2.1 29 = some (.invokestatic 77) := by decide +kernel
theorem cd_X12_rankOf_32 : ylk m_X12_rankOf.2.2.2.2.1 32 = some (.iload_n 2) := by decide +kernel
theorem cd_X12_rankOf_33 : ylk m_X12_rankOf.2.2.2.2.1 33 = some (.if_icmp .gt 19) := by decide +kernel
theorem cd_X12_rankOf_36 : ylk m_X12_rankOf.2.2.2.2.1 36 = some (.iload 4) := by decide +kernel
theorem cd_X12_rankOf_38 : ylk m_X12_rankOf.2.2.2.2.1 38 = some (.iload_n 1) := by decide +kernel
theorem cd_X12_rankOf_39 : ylk m_X12_rankOf.2.2.2.2.1 39 = some (.if_icmp .ge 17) := by decide +kernel
theorem cd_X12_rankOf_42 : ylk m_X12_rankOf.2.2.2.2.1 42 = some (.aload_n 0) := by decide +kernel
theorem cd_X12_rankOf_43 : ylk m_X12_rankOf.2.2.2.2.1 43 = some (.iload 4) := by decide +kernel
theorem cd_X12_rankOf_45 : ylk m_X12_rankOf.2.2.2.2.1 45 = some (.invokestatic 77) := by decide +kernel
theorem cd_X12_rankOf_48 : ylk m_X12_rankOf.2.2.2.2.1 48 = some (.iload_n 2) := by decide +kernel
theorem cd_X12_rankOf_49 : ylk m_X12_rankOf.2.2.2.2.1 49 = some (.if_icmp .ne 7) := by decide +kernel
theorem cd_X12_rankOf_52 : ylk m_X12_rankOf.2.2.2.2.1 52 = some (.iconst 1) := by decide +kernel
theorem cd_X12_rankOf_53 : ylk m_X12_rankOf.2.2.2.2.1 53 = some (.goto 4) := by decide +kernel
theorem cd_X12_rankOf_56 : ylk m_X12_rankOf.2.2.2.2.1 56 = some (.iconst 0) := by decide +kernel
theorem cd_X12_rankOf_57 : ylk m_X12_rankOf.2.2.2.2.1 57 = some (.iadd) := by decide +kernel
theorem cd_X12_rankOf_58 : ylk m_X12_rankOf.2.2.2.2.1 58 = some (.istore_n 3) := by decide +kernel
theorem cd_X12_rankOf_59 : ylk m_X12_rankOf.2.2.2.2.1 59 = some (.iinc 4 1) := by decide +kernel
theorem cd_X12_rankOf_62 : ylk m_X12_rankOf.2.2.2.2.1 62 = some (.goto (-51)) := by decide +kernel
theorem cd_X12_rankOf_65 : ylk m_X12_rankOf.2.2.2.2.1 65 = some (.iload_n 3) := by decide +kernel
theorem cd_X12_rankOf_66 : ylk m_X12_rankOf.2.2.2.2.1 66 = some (.ireturn) := by decide +kernel
noncomputable abbrev yb_X12_rankOf (C : yC) : ySt → Option (Option Value × yM) := yrn m_X12_rankOf C
theorem en_X12_rankOf (n : Nat) (A : yM) (v0 : Nat) (v1 : Int32) : ycall (n + 1) 156 [.ref v0, .int v1] A = (yi ((ycall n) 154 [.ref v0, .int v1] A)).bind (fun z1 => yb_X12_rankOf (ycall n) (11, [some (.ref v0), some (.int v1), some (.int z1.1), some (.int (0 : Int32)), some (.int (0 : Int32))], [], z1.2)) := (ybig_blk 9 _).trans (z_aload_n cd_X12_rankOf_0 (j := 0) rfl rfl (p := 1) rfl (zgo rfl (z_iload_n cd_X12_rankOf_1 (j := 1) rfl rfl (p := 2) rfl (zgo rfl (z_cs1 cd_X12_rankOf_2 (zs (key := 232) (by decide)) cl_X12_c232 rfl rfl rfl rfl (p := 5) rfl (fun _ => (zgo rfl (z_istore_n cd_X12_rankOf_5 (j := 2) rfl rfl (p := 6) rfl (zgo rfl (z_iconst cd_X12_rankOf_6 ki_0 (p := 7) rfl (zgo rfl (z_istore_n cd_X12_rankOf_7 (j := 3) rfl rfl (p := 8) rfl (zgo rfl (z_iconst cd_X12_rankOf_8 ki_0 (p := 9) rfl (zgo rfl (z_istore cd_X12_rankOf_9 rfl (p := 11) rfl (zcut (p := 11) rfl rfl)))))))))))))))))
theorem bk_X12_rankOf_11 (C : yC) (A : yM) (v0 : Nat) (v1 : Int32) (v2 : Int32) (v3 : Int32) (v4 : Int32) : yb_X12_rankOf C (11, [some (.ref v0), some (.int v1), some (.int v2), some (.int v3), some (.int v4)], [], A) = yrd A v0 (0 : Int32) (fun x1 => if x1 ≤ v4 then (some (some (.int v3), A)) else (if v4 = v1 then (yb_X12_rankOf C (11, [some (.ref v0), some (.int v1), some (.int v2), some (.int (v3 + (0 : Int32))), some (.int (v4 + (1 : Int32)))], [], A)) else ((yi (C 154 [.ref v0, .int v4] A)).bind (fun z2 => if v2 < z2.1 then (yb_X12_rankOf C (11, [some (.ref v0), some (.int v1), some (.int v2), some (.int (v3 + (1 : Int32))), some (.int (v4 + (1 : Int32)))], [], z2.2)) else (if v1 ≤ v4 then (yb_X12_rankOf C (11, [some (.ref v0), some (.int v1), some (.int v2), some (.int (v3 + (0 : Int32))), some (.int (v4 + (1 : Int32)))], [], z2.2)) else ((yi (C 154 [.ref v0, .int v4] z2.2)).bind (fun z3 => if z3.1 = v2 then (yb_X12_rankOf C (11, [some (.ref v0), some (.int v1), some (.int v2), some (.int (v3 + (1 : Int32))), some (.int (v4 + (1 : Int32)))], [], z3.2)) else (yb_X12_rankOf C (11, [some (.ref v0), some (.int v1), some (.int v2), some (.int (v3 + (0 : Int32))), some (.int (v4 + (1 : Int32)))], [], z3.2))))))))) := (ybig_blk 29 _).trans (z_iload cd_X12_rankOf_11 rfl (p := 13) rfl (zgo rfl (z_aload_n cd_X12_rankOf_13 (j := 0) rfl rfl (p := 14) rfl (zgo rfl (z_iconst cd_X12_rankOf_14 ki_0 (p := 15) rfl (zgo rfl (z_iaload cd_X12_rankOf_15 (p := 16) rfl (fun _ => (zgo rfl (z_ic_ge cd_X12_rankOf_16 (p := 65) rfl (p2 := 19) rfl (zgo rfl (z_iload_n cd_X12_rankOf_65 (j := 3) rfl rfl (p := 66) rfl (zgo rfl (z_iret cd_X12_rankOf_66 rfl)))) (zgo rfl (z_iload_n cd_X12_rankOf_19 (j := 3) rfl rfl (p := 20) rfl (zgo rfl (z_iload cd_X12_rankOf_20 rfl (p := 22) rfl (zgo rfl (z_iload_n cd_X12_rankOf_22 (j := 1) rfl rfl (p := 23) rfl (zgo rfl (z_ic_eq cd_X12_rankOf_23 (p := 56) rfl (p2 := 26) rfl (zgo rfl (z_iconst cd_X12_rankOf_56 ki_0 (p := 57) rfl (zgo rfl (z_iadd cd_X12_rankOf_57 (p := 58) rfl (zgo rfl (z_istore_n cd_X12_rankOf_58 (j := 3) rfl rfl (p := 59) rfl (zgo rfl (z_iinc cd_X12_rankOf_59 ki_1 rfl rfl (p := 62) rfl (zgo rfl (z_goto cd_X12_rankOf_62 (p := 11) rfl (zcut (p := 11) rfl rfl))))))))))) (zgo rfl (z_aload_n cd_X12_rankOf_26 (j := 0) rfl rfl (p := 27) rfl (zgo rfl (z_iload cd_X12_rankOf_27 rfl (p := 29) rfl (zgo rfl (z_cs1 cd_X12_rankOf_29 (zs (key := 232) (by decide)) cl_X12_c232 rfl rfl rfl rfl (p := 32) rfl (fun _ => (zgo rfl (z_iload_n cd_X12_rankOf_32 (j := 2) rfl rfl (p := 33) rfl (zgo rfl (z_ic_gt cd_X12_rankOf_33 (p := 52) rfl (p2 := 36) rfl (zgo rfl (z_iconst cd_X12_rankOf_52 ki_1 (p := 53) rfl (zgo rfl (z_goto cd_X12_rankOf_53 (p := 57) rfl (zgo rfl (z_iadd cd_X12_rankOf_57 (p := 58) rfl (zgo rfl (z_istore_n cd_X12_rankOf_58 (j := 3) rfl rfl (p := 59) rfl (zgo rfl (z_iinc cd_X12_rankOf_59 ki_1 rfl rfl (p := 62) rfl (zgo rfl (z_goto cd_X12_rankOf_62 (p := 11) rfl (zcut (p := 11) rfl rfl))))))))))))) (zgo rfl (z_iload cd_X12_rankOf_36 rfl (p := 38) rfl (zgo rfl (z_iload_n cd_X12_rankOf_38 (j := 1) rfl rfl (p := 39) rfl (zgo rfl (z_ic_ge cd_X12_rankOf_39 (p := 56) rfl (p2 := 42) rfl (zgo rfl (z_iconst cd_X12_rankOf_56 ki_0 (p := 57) rfl (zgo rfl (z_iadd cd_X12_rankOf_57 (p := 58) rfl (zgo rfl (z_istore_n cd_X12_rankOf_58 (j := 3) rfl rfl (p := 59) rfl (zgo rfl (z_iinc cd_X12_rankOf_59 ki_1 rfl rfl (p := 62) rfl (zgo rfl (z_goto cd_X12_rankOf_62 (p := 11) rfl (zcut (p := 11) rfl rfl))))))))))) (zgo rfl (z_aload_n cd_X12_rankOf_42 (j := 0) rfl rfl (p := 43) rfl (zgo rfl (z_iload cd_X12_rankOf_43 rfl (p := 45) rfl (zgo rfl (z_cs1 cd_X12_rankOf_45 (zs (key := 232) (by decide)) cl_X12_c232 rfl rfl rfl rfl (p := 48) rfl (fun _ => (zgo rfl (z_iload_n cd_X12_rankOf_48 (j := 2) rfl rfl (p := 49) rfl (zgo rfl (z_ic_ne cd_X12_rankOf_49 (p := 56) rfl (p2 := 52) rfl (zgo rfl (z_iconst cd_X12_rankOf_52 ki_1 (p := 53) rfl (zgo rfl (z_goto cd_X12_rankOf_53 (p := 57) rfl (zgo rfl (z_iadd cd_X12_rankOf_57 (p := 58) rfl (zgo rfl (z_istore_n cd_X12_rankOf_58 (j := 3) rfl rfl (p := 59) rfl (zgo rfl (z_iinc cd_X12_rankOf_59 ki_1 rfl rfl (p := 62) rfl (zgo rfl (z_goto cd_X12_rankOf_62 (p := 11) rfl (zcut (p := 11) rfl rfl))))))))))))) (zgo rfl (z_iconst cd_X12_rankOf_56 ki_0 (p := 57) rfl (zgo rfl (z_iadd cd_X12_rankOf_57 (p := 58) rfl (zgo rfl (z_istore_n cd_X12_rankOf_58 (j := 3) rfl rfl (p := 59) rfl (zgo rfl (z_iinc cd_X12_rankOf_59 ki_1 rfl rfl (p := 62) rfl (zgo rfl (z_goto cd_X12_rankOf_62 (p := 11) rfl (zcut (p := 11) rfl rfl)))))))))))))))))))))))))))))))))))))))))))))))))))))))))
theorem cd_X12_firstOf_0 : ylk m_X12_firstOf.2.2.2.2.1 0 = some (.bipush (-4)) := by decide +kernel
theorem cd_X12_firstOf_2 : ylk m_X12_firstOf.2.2.2.2.1 2 = some (.istore_n 1) := by decide +kernel
theorem cd_X12_firstOf_3 : ylk m_X12_firstOf.2.2.2.2.1 3 = some (.iconst (-1)) := by decide +kernel
theorem cd_X12_firstOf_4 : ylk m_X12_firstOf.2.2.2.2.1 4 = some (.istore_n 2) := by decide +kernel
theorem cd_X12_firstOf_5 : ylk m_X12_firstOf.2.2.2.2.1 5 = some (.iconst 0) := by decide +kernel
theorem cd_X12_firstOf_6 : ylk m_X12_firstOf.2.2.2.2.1 6 = some (.istore_n 3) := by decide +kernel
theorem cd_X12_firstOf_7 : ylk m_X12_firstOf.2.2.2.2.1 7 = some (.iload_n 3) := by decide +kernel
theorem cd_X12_firstOf_8 : ylk m_X12_firstOf.2.2.2.2.1 8 = some (.aload_n 0) := by decide +kernel
theorem cd_X12_firstOf_9 : ylk m_X12_firstOf.2.2.2.2.1 9 = some (.iconst 0) := by decide +kernel
theorem cd_X12_firstOf_10 : ylk m_X12_firstOf.2.2.2.2.1 10 = some (.iaload) := by decide +kernel
theorem cd_X12_firstOf_11 : ylk m_X12_firstOf.2.2.2.2.1 11 = some (.if_icmp .ge 30) := by decide +kernel
theorem cd_X12_firstOf_14 : ylk m_X12_firstOf.2.2.2.2.1 14 = some (.aload_n 0) := by decide +kernel
theorem cd_X12_firstOf_15 : ylk m_X12_firstOf.2.2.2.2.1 15 = some (.iload_n 3) := by decide +kernel
theorem cd_X12_firstOf_16 : ylk m_X12_firstOf.2.2.2.2.1 16 = some (.invokestatic 77) := by decide +kernel
theorem cd_X12_firstOf_19 : ylk m_X12_firstOf.2.2.2.2.1 19 = some (.istore 4) := by decide +kernel
theorem cd_X12_firstOf_21 : ylk m_X12_firstOf.2.2.2.2.1 21 = some (.iload 4) := by decide +kernel
theorem cd_X12_firstOf_23 : ylk m_X12_firstOf.2.2.2.2.1 23 = some (.iload_n 2) := by decide +kernel
theorem cd_X12_firstOf_24 : ylk m_X12_firstOf.2.2.2.2.1 24 = some (.if_icmp .gt 6) := by decide +kernel
theorem cd_X12_firstOf_27 : ylk m_X12_firstOf.2.2.2.2.1 27 = some (.goto 8) := by decide +kernel
theorem cd_X12_firstOf_30 : ylk m_X12_firstOf.2.2.2.2.1 30 = some (.iload_n 3) := by decide +kernel
theorem cd_X12_firstOf_31 : ylk m_X12_firstOf.2.2.2.2.1 31 = some (.istore_n 1) := by decide +kernel
theorem cd_X12_firstOf_32 : ylk m_X12_firstOf.2.2.2.2.1 32 = some (.iload 4) := by decide +kernel
theorem cd_X12_firstOf_34 : ylk m_X12_firstOf.2.2.2.2.1 34 = some (.istore_n 2) := by decide +kernel
theorem cd_X12_firstOf_35 : ylk m_X12_firstOf.2.2.2.2.1 35 = some (.iinc 3 1) := by decide +kernel
theorem cd_X12_firstOf_38 : ylk m_X12_firstOf.2.2.2.2.1 38 = some (.goto (-31)) := by decide +kernel
theorem cd_X12_firstOf_41 : ylk m_X12_firstOf.2.2.2.2.1 41 = some (.iload_n 1) := by decide +kernel
theorem cd_X12_firstOf_42 : ylk m_X12_firstOf.2.2.2.2.1 42 = some (.ireturn) := by decide +kernel
noncomputable abbrev yb_X12_firstOf (C : yC) : ySt → Option (Option Value × yM) := yrn m_X12_firstOf C
theorem en_X12_firstOf (n : Nat) (A : yM) (v0 : Nat) : ycall (n + 1) 157 [.ref v0] A = yb_X12_firstOf (ycall n) (7, [some (.ref v0), some (.int (-4 : Int32)), some (.int (-1 : Int32)), some (.int (0 : Int32)), none], [], A) := (ybig_blk 7 _).trans (z_bipush cd_X12_firstOf_0 kb_m4 (p := 2) rfl (zgo rfl (z_istore_n cd_X12_firstOf_2 (j := 1) rfl rfl (p := 3) rfl (zgo rfl (z_iconst cd_X12_firstOf_3 ki_m1 (p := 4) rfl (zgo rfl (z_istore_n cd_X12_firstOf_4 (j := 2) rfl rfl (p := 5) rfl (zgo rfl (z_iconst cd_X12_firstOf_5 ki_0 (p := 6) rfl (zgo rfl (z_istore_n cd_X12_firstOf_6 (j := 3) rfl rfl (p := 7) rfl (zcut (p := 7) rfl rfl))))))))))))
theorem bk_X12_firstOf_7 (C : yC) (A : yM) (v0 : Nat) (v1 : Int32) (v2 : Int32) (v3 : Int32) : yb_X12_firstOf C (7, [some (.ref v0), some (.int v1), some (.int v2), some (.int v3), none], [], A) = yrd A v0 (0 : Int32) (fun x1 => if x1 ≤ v3 then (some (some (.int v1), A)) else ((yi (C 154 [.ref v0, .int v3] A)).bind (fun z2 => if v2 < z2.1 then (yb_X12_firstOf C (7, [some (.ref v0), some (.int v3), some (.int z2.1), some (.int (v3 + (1 : Int32))), none], [], z2.2)) else (yb_X12_firstOf C (7, [some (.ref v0), some (.int v1), some (.int v2), some (.int (v3 + (1 : Int32))), none], [], z2.2))))) := (ybig_blk 19 _).trans (z_iload_n cd_X12_firstOf_7 (j := 3) rfl rfl (p := 8) rfl (zgo rfl (z_aload_n cd_X12_firstOf_8 (j := 0) rfl rfl (p := 9) rfl (zgo rfl (z_iconst cd_X12_firstOf_9 ki_0 (p := 10) rfl (zgo rfl (z_iaload cd_X12_firstOf_10 (p := 11) rfl (fun _ => (zgo rfl (z_ic_ge cd_X12_firstOf_11 (p := 41) rfl (p2 := 14) rfl (zgo rfl (z_iload_n cd_X12_firstOf_41 (j := 1) rfl rfl (p := 42) rfl (zgo rfl (z_iret cd_X12_firstOf_42 rfl)))) (zgo rfl (z_aload_n cd_X12_firstOf_14 (j := 0) rfl rfl (p := 15) rfl (zgo rfl (z_iload_n cd_X12_firstOf_15 (j := 3) rfl rfl (p := 16) rfl (zgo rfl (z_cs1 cd_X12_firstOf_16 (zs (key := 232) (by decide)) cl_X12_c232 rfl rfl rfl rfl (p := 19) rfl (fun _ => (zgo rfl (z_istore cd_X12_firstOf_19 rfl (p := 21) rfl (zgo rfl (z_iload cd_X12_firstOf_21 rfl (p := 23) rfl (zgo rfl (z_iload_n cd_X12_firstOf_23 (j := 2) rfl rfl (p := 24) rfl (zgo rfl (z_ic_gt cd_X12_firstOf_24 (p := 30) rfl (p2 := 27) rfl (zgo rfl (z_iload_n cd_X12_firstOf_30 (j := 3) rfl rfl (p := 31) rfl (zgo rfl (z_istore_n cd_X12_firstOf_31 (j := 1) rfl rfl (p := 32) rfl (zgo rfl (z_iload cd_X12_firstOf_32 rfl (p := 34) rfl (zgo rfl (z_istore_n cd_X12_firstOf_34 (j := 2) rfl rfl (p := 35) rfl (zgo rfl (z_iinc cd_X12_firstOf_35 ki_1 rfl rfl (p := 38) rfl (zgo rfl (z_goto cd_X12_firstOf_38 (p := 7) rfl (zcut (p := 7) rfl rfl))))))))))))) (zgo rfl (z_goto cd_X12_firstOf_27 (p := 35) rfl (zgo rfl (z_iinc cd_X12_firstOf_35 ki_1 rfl rfl (p := 38) rfl (zgo rfl (z_goto cd_X12_firstOf_38 (p := 7) rfl (zcut (p := 7) rfl rfl))))))))))))))))))))))))))))))))
theorem cd_X12_week_0 : ylk m_X12_week.2.2.2.2.1 0 = some (.aload_n 0) := by decide +kernel
theorem cd_X12_week_1 : ylk m_X12_week.2.2.2.2.1 1 = some (.iconst 2) := by decide +kernel
theorem cd_X12_week_2 : ylk m_X12_week.2.2.2.2.1 2 = some (.dup2) := by decide +kernel
theorem cd_X12_week_3 : ylk m_X12_week.2.2.2.2.1 3 = some (.iaload) := by decide +kernel
theorem cd_X12_week_4 : ylk m_X12_week.2.2.2.2.1 4 = some (.iconst 1) := by decide +kernel
theorem cd_X12_week_5 : ylk m_X12_week.2.2.2.2.1 5 = some (.iadd) := by decide +kernel
theorem cd_X12_week_6 : ylk m_X12_week.2.2.2.2.1 6 = some (.iastore) := by decide +kernel
theorem cd_X12_week_7 : ylk m_X12_week.2.2.2.2.1 7 = some (.iconst 0) := by decide +kernel
theorem cd_X12_week_8 : ylk m_X12_week.2.2.2.2.1 8 = some (.istore_n 1) := by decide +kernel
theorem cd_X12_week_9 : ylk m_X12_week.2.2.2.2.1 9 = some (.iload_n 1) := by decide +kernel
theorem cd_X12_week_10 : ylk m_X12_week.2.2.2.2.1 10 = some (.aload_n 0) := by decide +kernel
theorem cd_X12_week_11 : ylk m_X12_week.2.2.2.2.1 11 = some (.iconst 1) := by decide +kernel
theorem cd_X12_week_12 : ylk m_X12_week.2.2.2.2.1 12 = some (.iaload) := by decide +kernel
theorem cd_X12_week_13 : ylk m_X12_week.2.2.2.2.1 13 = some (.if_icmp .ge 75) := by decide +kernel
theorem cd_X12_week_16 : ylk m_X12_week.2.2.2.2.1 16 = some (.aload_n 0) := by decide +kernel
theorem cd_X12_week_17 : ylk m_X12_week.2.2.2.2.1 17 = some (.iload_n 1) := by decide +kernel
theorem cd_X12_week_18 : ylk m_X12_week.2.2.2.2.1 18 = some (.iconst 0) := by decide +kernel
theorem cd_X12_week_19 : ylk m_X12_week.2.2.2.2.1 19 = some (.invokestatic 54) := by decide +kernel
theorem cd_X12_week_22 : ylk m_X12_week.2.2.2.2.1 22 = some (.iaload) := by decide +kernel
theorem cd_X12_week_23 : ylk m_X12_week.2.2.2.2.1 23 = some (.istore_n 2) := by decide +kernel
theorem cd_X12_week_24 : ylk m_X12_week.2.2.2.2.1 24 = some (.aload_n 0) := by decide +kernel
theorem cd_X12_week_25 : ylk m_X12_week.2.2.2.2.1 25 = some (.iload_n 1) := by decide +kernel
theorem cd_X12_week_26 : ylk m_X12_week.2.2.2.2.1 26 = some (.iconst 4) := by decide +kernel
theorem cd_X12_week_27 : ylk m_X12_week.2.2.2.2.1 27 = some (.invokestatic 54) := by decide +kernel
theorem cd_X12_week_30 : ylk m_X12_week.2.2.2.2.1 30 = some (.iaload) := by decide +kernel
theorem cd_X12_week_31 : ylk m_X12_week.2.2.2.2.1 31 = some (.ifCond .ne 51) := by decide +kernel
theorem cd_X12_week_34 : ylk m_X12_week.2.2.2.2.1 34 = some (.aload_n 0) := by decide +kernel
theorem cd_X12_week_35 : ylk m_X12_week.2.2.2.2.1 35 = some (.iload_n 2) := by decide +kernel
theorem cd_X12_week_36 : ylk m_X12_week.2.2.2.2.1 36 = some (.invokestatic 80) := by decide +kernel
theorem cd_X12_week_39 : ylk m_X12_week.2.2.2.2.1 39 = some (.ifCond .eq 43) := by decide +kernel
theorem cd_X12_week_42 : ylk m_X12_week.2.2.2.2.1 42 = some (.aload_n 0) := by decide +kernel
theorem cd_X12_week_43 : ylk m_X12_week.2.2.2.2.1 43 = some (.iload_n 1) := by decide +kernel
theorem cd_X12_week_44 : ylk m_X12_week.2.2.2.2.1 44 = some (.iconst 2) := by decide +kernel
theorem cd_X12_week_45 : ylk m_X12_week.2.2.2.2.1 45 = some (.invokestatic 54) := by decide +kernel
theorem cd_X12_week_48 : ylk m_X12_week.2.2.2.2.1 48 = some (.bipush 99) := by decide +kernel
theorem cd_X12_week_50 : ylk m_X12_week.2.2.2.2.1 50 = some (.aload_n 0) := by decide +kernel
theorem cd_X12_week_51 : ylk m_X12_week.2.2.2.2.1 51 = some (.iload_n 1) := by decide +kernel
theorem cd_X12_week_52 : ylk m_X12_week.2.2.2.2.1 52 = some (.iconst 2) := by decide +kernel
theorem cd_X12_week_53 : ylk m_X12_week.2.2.2.2.1 53 = some (.invokestatic 54) := by decide +kernel
theorem cd_X12_week_56 : ylk m_X12_week.2.2.2.2.1 56 = some (.iaload) := by decide +kernel
theorem cd_X12_week_57 : ylk m_X12_week.2.2.2.2.1 57 = some (.aload_n 0) := by decide +kernel
theorem cd_X12_week_58 : ylk m_X12_week.2.2.2.2.1 58 = some (.iload_n 2) := by decide +kernel
theorem cd_X12_week_59 : ylk m_X12_week.2.2.2.2.1 59 = some (.iconst 0) := by decide +kernel
theorem cd_X12_week_60 : ylk m_X12_week.2.2.2.2.1 60 = some (.invokestatic 50) := by decide +kernel
theorem cd_X12_week_63 : ylk m_X12_week.2.2.2.2.1 63 = some (.iaload) := by decide +kernel
theorem cd_X12_week_64 : ylk m_X12_week.2.2.2.2.1 64 = some (.aload_n 0) := by decide +kernel
theorem cd_X12_week_65 : ylk m_X12_week.2.2.2.2.1 65 = some (.iload_n 2) := by decide +kernel
theorem cd_X12_week_66 : ylk m_X12_week.2.2.2.2.1 66 = some (.iconst 1) := by decide +kernel
theorem cd_X12_week_67 : ylk m_X12_week.2.2.2.2.1 67 = some (.invokestatic 50) := by decide +kernel
theorem cd_X12_week_70 : ylk m_X12_week.2.2.2.2.1 70 = some (.iaload) := by decide +kernel
theorem cd_X12_week_71 : ylk m_X12_week.2.2.2.2.1 71 = some (.aload_n 0) := by decide +kernel
theorem cd_X12_week_72 : ylk m_X12_week.2.2.2.2.1 72 = some (.iconst 2) := by decide +kernel
theorem cd_X12_week_73 : ylk m_X12_week.2.2.2.2.1 73 = some (.iaload) := by decide +kernel
theorem cd_X12_week_74 : ylk m_X12_week.2.2.2.2.1 74 = some (.invokestatic 84) := by decide +kernel
theorem cd_X12_week_77 : ylk m_X12_week.2.2.2.2.1 77 = some (.iadd) := by decide +kernel
theorem cd_X12_week_78 : ylk m_X12_week.2.2.2.2.1 78 = some (.invokestatic 60) := by decide +kernel
theorem cd_X12_week_81 : ylk m_X12_week.2.2.2.2.1 81 = some (.iastore) := by decide +kernel
theorem cd_X12_week_82 : ylk m_X12_week.2.2.2.2.1 82 = some (.iinc 1 1) := by decide +kernel
theorem cd_X12_week_85 : ylk m_X12_week.2.2.2.2.1 85 = some (.goto (-76)) := by decide +kernel
theorem cd_X12_week_88 : ylk m_X12_week.2.2.2.2.1 88 = some (.return_) := by decide +kernel
noncomputable abbrev yb_X12_week (C : yC) : ySt → Option (Option Value × yM) := yrn m_X12_week C
theorem en_X12_week (n : Nat) (A : yM) (v0 : Nat) : ycall (n + 1) 158 [.ref v0] A = yrd A v0 (2 : Int32) (fun x1 => ywr A v0 (2 : Int32) (x1 + (1 : Int32)) (fun A2 => yb_X12_week (ycall n) (9, [some (.ref v0), some (.int (0 : Int32)), none], [], A2))) := (ybig_blk 10 _).trans (z_aload_n cd_X12_week_0 (j := 0) rfl rfl (p := 1) rfl (zgo rfl (z_iconst cd_X12_week_1 ki_2 (p := 2) rfl (zgo rfl (z_dup2 cd_X12_week_2 (p := 3) rfl (zgo rfl (z_iaload cd_X12_week_3 (p := 4) rfl (fun _ => (zgo rfl (z_iconst cd_X12_week_4 ki_1 (p := 5) rfl (zgo rfl (z_iadd cd_X12_week_5 (p := 6) rfl (zgo rfl (z_iastore cd_X12_week_6 (p := 7) rfl (fun _ => (zgo rfl (z_iconst cd_X12_week_7 ki_0 (p := 8) rfl (zgo rfl (z_istore_n cd_X12_week_8 (j := 1) rfl rfl (p := 9) rfl (zcut (p := 9) rfl rfl))))))))))))))))))))
theorem bk_X12_week_9 (C : yC) (A : yM) (v0 : Nat) (v1 : Int32) : yb_X12_week C (9, [some (.ref v0), some (.int v1), none], [], A) = yrd A v0 (1 : Int32) (fun x1 => if x1 ≤ v1 then (some (none, A)) else ((yi (C 143 [.int v1, .int (0 : Int32)] A)).bind (fun z2 => yrd z2.2 v0 z2.1 (fun x3 => (yi (C 143 [.int v1, .int (4 : Int32)] z2.2)).bind (fun z4 => yrd z4.2 v0 z4.1 (fun x5 => if x5 = 0 then ((yi (C 146 [.ref v0, .int x3] z4.2)).bind (fun z6 => if z6.1 = 0 then (yb_X12_week C (9, [some (.ref v0), some (.int (v1 + (1 : Int32))), none], [], z6.2)) else ((yi (C 143 [.int v1, .int (2 : Int32)] z6.2)).bind (fun z7 => (yi (C 143 [.int v1, .int (2 : Int32)] z7.2)).bind (fun z8 => yrd z8.2 v0 z8.1 (fun x9 => (yi (C 142 [.int x3, .int (0 : Int32)] z8.2)).bind (fun z10 => yrd z10.2 v0 z10.1 (fun x11 => (yi (C 142 [.int x3, .int (1 : Int32)] z10.2)).bind (fun z12 => yrd z12.2 v0 z12.1 (fun x13 => yrd z12.2 v0 (2 : Int32) (fun x14 => (yi (C 149 [.int x11, .int x13, .int x14] z12.2)).bind (fun z15 => (yi (C 139 [.int (99 : Int32), .int (x9 + z15.1)] z15.2)).bind (fun z16 => ywr z16.2 v0 z7.1 z16.1 (fun A17 => yb_X12_week C (9, [some (.ref v0), some (.int (v1 + (1 : Int32))), none], [], A17))))))))))))))) else (yb_X12_week C (9, [some (.ref v0), some (.int (v1 + (1 : Int32))), none], [], z4.2)))))))) := (ybig_blk 51 _).trans (z_iload_n cd_X12_week_9 (j := 1) rfl rfl (p := 10) rfl (zgo rfl (z_aload_n cd_X12_week_10 (j := 0) rfl rfl (p := 11) rfl (zgo rfl (z_iconst cd_X12_week_11 ki_1 (p := 12) rfl (zgo rfl (z_iaload cd_X12_week_12 (p := 13) rfl (fun _ => (zgo rfl (z_ic_ge cd_X12_week_13 (p := 88) rfl (p2 := 16) rfl (zgo rfl (z_ret cd_X12_week_88 rfl)) (zgo rfl (z_aload_n cd_X12_week_16 (j := 0) rfl rfl (p := 17) rfl (zgo rfl (z_iload_n cd_X12_week_17 (j := 1) rfl rfl (p := 18) rfl (zgo rfl (z_iconst cd_X12_week_18 ki_0 (p := 19) rfl (zgo rfl (z_cs1 cd_X12_week_19 (zs (key := 163) (by decide)) cl_X12_c163 rfl rfl rfl rfl (p := 22) rfl (fun _ => (zgo rfl (z_iaload cd_X12_week_22 (p := 23) rfl (fun _ => (zgo rfl (z_istore_n cd_X12_week_23 (j := 2) rfl rfl (p := 24) rfl (zgo rfl (z_aload_n cd_X12_week_24 (j := 0) rfl rfl (p := 25) rfl (zgo rfl (z_iload_n cd_X12_week_25 (j := 1) rfl rfl (p := 26) rfl (zgo rfl (z_iconst cd_X12_week_26 ki_4 (p := 27) rfl (zgo rfl (z_cs1 cd_X12_week_27 (zs (key := 163) (by decide)) cl_X12_c163 rfl rfl rfl rfl (p := 30) rfl (fun _ => (zgo rfl (z_iaload cd_X12_week_30 (p := 31) rfl (fun _ => (zgo rfl (z_if_ne cd_X12_week_31 (p := 82) rfl (p2 := 34) rfl (zgo rfl (z_aload_n cd_X12_week_34 (j := 0) rfl rfl (p := 35) rfl (zgo rfl (z_iload_n cd_X12_week_35 (j := 2) rfl rfl (p := 36) rfl (zgo rfl (z_cs1 cd_X12_week_36 (zs (key := 241) (by decide)) cl_X12_c241 rfl rfl rfl rfl (p := 39) rfl (fun _ => (zgo rfl (z_if_eq cd_X12_week_39 (p := 82) rfl (p2 := 42) rfl (zgo rfl (z_iinc cd_X12_week_82 ki_1 rfl rfl (p := 85) rfl (zgo rfl (z_goto cd_X12_week_85 (p := 9) rfl (zcut (p := 9) rfl rfl))))) (zgo rfl (z_aload_n cd_X12_week_42 (j := 0) rfl rfl (p := 43) rfl (zgo rfl (z_iload_n cd_X12_week_43 (j := 1) rfl rfl (p := 44) rfl (zgo rfl (z_iconst cd_X12_week_44 ki_2 (p := 45) rfl (zgo rfl (z_cs1 cd_X12_week_45 (zs (key := 163) (by decide)) cl_X12_c163 rfl rfl rfl rfl (p := 48) rfl (fun _ => (zgo rfl (z_bipush cd_X12_week_48 kb_99 (p := 50) rfl (zgo rfl (z_aload_n cd_X12_week_50 (j := 0) rfl rfl (p := 51) rfl (zgo rfl (z_iload_n cd_X12_week_51 (j := 1) rfl rfl (p := 52) rfl (zgo rfl (z_iconst cd_X12_week_52 ki_2 (p := 53) rfl (zgo rfl (z_cs1 cd_X12_week_53 (zs (key := 163) (by decide)) cl_X12_c163 rfl rfl rfl rfl (p := 56) rfl (fun _ => (zgo rfl (z_iaload cd_X12_week_56 (p := 57) rfl (fun _ => (zgo rfl (z_aload_n cd_X12_week_57 (j := 0) rfl rfl (p := 58) rfl (zgo rfl (z_iload_n cd_X12_week_58 (j := 2) rfl rfl (p := 59) rfl (zgo rfl (z_iconst cd_X12_week_59 ki_0 (p := 60) rfl (zgo rfl (z_cs1 cd_X12_week_60 (zs (key := 151) (by decide)) cl_X12_c151 rfl rfl rfl rfl (p := 63) rfl (fun _ => (zgo rfl (z_iaload cd_X12_week_63 (p := 64) rfl (fun _ => (zgo rfl (z_aload_n cd_X12_week_64 (j := 0) rfl rfl (p := 65) rfl (zgo rfl (z_iload_n cd_X12_week_65 (j := 2) rfl rfl (p := 66) rfl (zgo rfl (z_iconst cd_X12_week_66 ki_1 (p := 67) rfl (zgo rfl (z_cs1 cd_X12_week_67 (zs (key := 151) (by decide)) cl_X12_c151 rfl rfl rfl rfl (p := 70) rfl (fun _ => (zgo rfl (z_iaload cd_X12_week_70 (p := 71) rfl (fun _ => (zgo rfl (z_aload_n cd_X12_week_71 (j := 0) rfl rfl (p := 72) rfl (zgo rfl (z_iconst cd_X12_week_72 ki_2 (p := 73) rfl (zgo rfl (z_iaload cd_X12_week_73 (p := 74) rfl (fun _ => (zgo rfl (z_cs1 cd_X12_week_74 (zs (key := 253) (by decide)) cl_X12_c253 rfl rfl rfl rfl (p := 77) rfl (fun _ => (zgo rfl (z_iadd cd_X12_week_77 (p := 78) rfl (zgo rfl (z_cs1 cd_X12_week_78 (zs (key := 181) (by decide)) cl_X12_c181 rfl rfl rfl rfl (p := 81) rfl (fun _ => (zgo rfl (z_iastore cd_X12_week_81 (p := 82) rfl (fun _ => (zgo rfl (z_iinc cd_X12_week_82 ki_1 rfl rfl (p := 85) rfl (zgo rfl (z_goto cd_X12_week_85 (p := 9) rfl (zcut (p := 9) rfl rfl))))))))))))))))))))))))))))))))))))))))))))))))))))))))))))))))))))))))))))))) (zgo rfl (z_iinc cd_X12_week_82 ki_1 rfl rfl (p := 85) rfl (zgo rfl (z_goto cd_X12_week_85 (p := 9) rfl (zcut (p := 9) rfl rfl)))))))))))))))))))))))))))))))))))))))))))
theorem cd_X12_weeksOn_0 : ylk m_X12_weeksOn.2.2.2.2.1 0 = some (.iconst 0) := by decide +kernel
theorem cd_X12_weeksOn_1 : ylk m_X12_weeksOn.2.2.2.2.1 1 = some (.istore_n 2) := by decide +kernel
theorem cd_X12_weeksOn_2 : ylk m_X12_weeksOn.2.2.2.2.1 2 = some (.iload_n 2) := by decide +kernel
theorem cd_X12_weeksOn_3 : ylk m_X12_weeksOn.2.2.2.2.1 3 = some (.iload_n 1) := by decide +kernel
theorem cd_X12_weeksOn_4 : ylk m_X12_weeksOn.2.2.2.2.1 4 = some (.if_icmp .ge 13) := by decide +kernel
theorem cd_X12_weeksOn_7 : ylk m_X12_weeksOn.2.2.2.2.1 7 = some (.aload_n 0) := by decide +kernel
theorem cd_X12_weeksOn_8 : ylk m_X12_weeksOn.2.2.2.2.1 8 = some (.invokestatic 88) := by decide +kernel
theorem cd_X12_weeksOn_11 : ylk m_X12_weeksOn.2.2.2.2.1 11 = some (.iinc 2 1) := by decide +kernel
theorem cd_X12_weeksOn_14 : ylk m_X12_weeksOn.2.2.2.2.1 14 = some (.goto (-12)) := by decide +kernel
theorem cd_X12_weeksOn_17 : ylk m_X12_weeksOn.2.2.2.2.1 17 = some (.return_) := by decide +kernel
noncomputable abbrev yb_X12_weeksOn (C : yC) : ySt → Option (Option Value × yM) := yrn m_X12_weeksOn C
theorem en_X12_weeksOn (n : Nat) (A : yM) (v0 : Nat) (v1 : Int32) : ycall (n + 1) 159 [.ref v0, .int v1] A = yb_X12_weeksOn (ycall n) (2, [some (.ref v0), some (.int v1), some (.int (0 : Int32))], [], A) := (ybig_blk 3 _).trans (z_iconst cd_X12_weeksOn_0 ki_0 (p := 1) rfl (zgo rfl (z_istore_n cd_X12_weeksOn_1 (j := 2) rfl rfl (p := 2) rfl (zcut (p := 2) rfl rfl))))
theorem bk_X12_weeksOn_2 (C : yC) (A : yM) (v0 : Nat) (v1 : Int32) (v2 : Int32) : yb_X12_weeksOn C (2, [some (.ref v0), some (.int v1), some (.int v2)], [], A) = if v1 ≤ v2 then (some (none, A)) else ((yv (C 158 [.ref v0] A)).bind (fun A1 => yb_X12_weeksOn C (2, [some (.ref v0), some (.int v1), some (.int (v2 + (1 : Int32)))], [], A1))) := (ybig_blk 8 _).trans (z_iload_n cd_X12_weeksOn_2 (j := 2) rfl rfl (p := 3) rfl (zgo rfl (z_iload_n cd_X12_weeksOn_3 (j := 1) rfl rfl (p := 4) rfl (zgo rfl (z_ic_ge cd_X12_weeksOn_4 (p := 17) rfl (p2 := 7) rfl (zgo rfl (z_ret cd_X12_weeksOn_17 rfl)) (zgo rfl (z_aload_n cd_X12_weeksOn_7 (j := 0) rfl rfl (p := 8) rfl (zgo rfl (z_cs0 cd_X12_weeksOn_8 (zs (key := 265) (by decide)) cl_X12_c265 rfl rfl rfl rfl (p := 11) rfl (fun _ => (zgo rfl (z_iinc cd_X12_weeksOn_11 ki_1 rfl rfl (p := 14) rfl (zgo rfl (z_goto cd_X12_weeksOn_14 (p := 2) rfl (zcut (p := 2) rfl rfl)))))))))))))))
theorem cd_X12_errsIn_0 : ylk m_X12_errsIn.2.2.2.2.1 0 = some (.aload_n 0) := by decide +kernel
theorem cd_X12_errsIn_1 : ylk m_X12_errsIn.2.2.2.2.1 1 = some (.iconst 1) := by decide +kernel
theorem cd_X12_errsIn_2 : ylk m_X12_errsIn.2.2.2.2.1 2 = some (.iaload) := by decide +kernel
theorem cd_X12_errsIn_3 : ylk m_X12_errsIn.2.2.2.2.1 3 = some (.istore 5) := by decide +kernel
theorem cd_X12_errsIn_5 : ylk m_X12_errsIn.2.2.2.2.1 5 = some (.aload_n 0) := by decide +kernel
theorem cd_X12_errsIn_6 : ylk m_X12_errsIn.2.2.2.2.1 6 = some (.iload 5) := by decide +kernel
theorem cd_X12_errsIn_8 : ylk m_X12_errsIn.2.2.2.2.1 8 = some (.iconst 0) := by decide +kernel
theorem cd_X12_errsIn_9 : ylk m_X12_errsIn.2.2.2.2.1 9 = some (.invokestatic 54) := by decide +kernel
theorem cd_X12_errsIn_12 : ylk m_X12_errsIn.2.2.2.2.1 12 = some (.iload_n 1) := by decide +kernel
theorem cd_X12_errsIn_13 : ylk m_X12_errsIn.2.2.2.2.1 13 = some (.iastore) := by decide +kernel
theorem cd_X12_errsIn_14 : ylk m_X12_errsIn.2.2.2.2.1 14 = some (.aload_n 0) := by decide +kernel
theorem cd_X12_errsIn_15 : ylk m_X12_errsIn.2.2.2.2.1 15 = some (.iload 5) := by decide +kernel
theorem cd_X12_errsIn_17 : ylk m_X12_errsIn.2.2.2.2.1 17 = some (.iconst 1) := by decide +kernel
theorem cd_X12_errsIn_18 : ylk m_X12_errsIn.2.2.2.2.1 18 = some (.invokestatic 54) := by decide +kernel
theorem cd_X12_errsIn_21 : ylk m_X12_errsIn.2.2.2.2.1 21 = some (.iload_n 2) := by decide +kernel
theorem cd_X12_errsIn_22 : ylk m_X12_errsIn.2.2.2.2.1 22 = some (.iastore) := by decide +kernel
theorem cd_X12_errsIn_23 : ylk m_X12_errsIn.2.2.2.2.1 23 = some (.aload_n 0) := by decide +kernel
theorem cd_X12_errsIn_24 : ylk m_X12_errsIn.2.2.2.2.1 24 = some (.iload 5) := by decide +kernel
theorem cd_X12_errsIn_26 : ylk m_X12_errsIn.2.2.2.2.1 26 = some (.iconst 2) := by decide +kernel
theorem cd_X12_errsIn_27 : ylk m_X12_errsIn.2.2.2.2.1 27 = some (.invokestatic 54) := by decide +kernel
theorem cd_X12_errsIn_30 : ylk m_X12_errsIn.2.2.2.2.1 30 = some (.iload_n 3) := by decide +kernel
theorem cd_X12_errsIn_31 : ylk m_X12_errsIn.2.2.2.2.1 31 = some (.iastore) := by decide +kernel
theorem cd_X12_errsIn_32 : ylk m_X12_errsIn.2.2.2.2.1 32 = some (.aload_n 0) := by decide +kernel
theorem cd_X12_errsIn_33 : ylk m_X12_errsIn.2.2.2.2.1 33 = some (.iload 5) := by decide +kernel
theorem cd_X12_errsIn_35 : ylk m_X12_errsIn.2.2.2.2.1 35 = some (.iconst 3) := by decide +kernel
theorem cd_X12_errsIn_36 : ylk m_X12_errsIn.2.2.2.2.1 36 = some (.invokestatic 54) := by decide +kernel
theorem cd_X12_errsIn_39 : ylk m_X12_errsIn.2.2.2.2.1 39 = some (.iload 4) := by decide +kernel
theorem cd_X12_errsIn_41 : ylk m_X12_errsIn.2.2.2.2.1 41 = some (.iastore) := by decide +kernel
theorem cd_X12_errsIn_42 : ylk m_X12_errsIn.2.2.2.2.1 42 = some (.aload_n 0) := by decide +kernel
theorem cd_X12_errsIn_43 : ylk m_X12_errsIn.2.2.2.2.1 43 = some (.iload 5) := by decide +kernel
theorem cd_X12_errsIn_45 : ylk m_X12_errsIn.2.2.2.2.1 45 = some (.iconst 4) := by decide +kernel
theorem cd_X12_errsIn_46 : ylk m_X12_errsIn.2.2.2.2.1 46 = some (.invokestatic 54) := by decide +kernel
theorem cd_X12_errsIn_49 : ylk m_X12_errsIn.2.2.2.2.1 49 = some (.iconst 0) := by decide +kernel
theorem cd_X12_errsIn_50 : ylk m_X12_errsIn.2.2.2.2.1 50 = some (.iastore) := by decide +kernel
theorem cd_X12_errsIn_51 : ylk m_X12_errsIn.2.2.2.2.1 51 = some (.aload_n 0) := by decide +kernel
theorem cd_X12_errsIn_52 : ylk m_X12_errsIn.2.2.2.2.1 52 = some (.iconst 1) := by decide +kernel
theorem cd_X12_errsIn_53 : ylk m_X12_errsIn.2.2.2.2.1 53 = some (.dup2) := by decide +kernel
theorem cd_X12_errsIn_54 : ylk m_X12_errsIn.2.2.2.2.1 54 = some (.iaload) := by decide +kernel
theorem cd_X12_errsIn_55 : ylk m_X12_errsIn.2.2.2.2.1 55 = some (.iconst 1) := by decide +kernel
theorem cd_X12_errsIn_56 : ylk m_X12_errsIn.2.2.2.2.1 56 = some (.iadd) := by decide +kernel
theorem cd_X12_errsIn_57 : ylk m_X12_errsIn.2.2.2.2.1 57 = some (.iastore) := by decide +kernel
theorem cd_X12_errsIn_58 : ylk m_X12_errsIn.2.2.2.2.1 58 = some (.return_) := by decide +kernel
noncomputable abbrev yb_X12_errsIn (C : yC) : ySt → Option (Option Value × yM) := yrn m_X12_errsIn C
theorem en_X12_errsIn (n : Nat) (A : yM) (v0 : Nat) (v1 : Int32) (v2 : Int32) (v3 : Int32) (v4 : Int32) : ycall (n + 1) 160 [.ref v0, .int v1, .int v2, .int v3, .int v4] A = yrd A v0 (1 : Int32) (fun x1 => (yi ((ycall n) 143 [.int x1, .int (0 : Int32)] A)).bind (fun z2 => ywr z2.2 v0 z2.1 v1 (fun A3 => (yi ((ycall n) 143 [.int x1, .int (1 : Int32)] A3)).bind (fun z4 => ywr z4.2 v0 z4.1 v2 (fun A5 => (yi ((ycall n) 143 [.int x1, .int (2 : Int32)] A5)).bind (fun z6 => ywr z6.2 v0 z6.1 v3 (fun A7 => (yi ((ycall n) 143 [.int x1, .int (3 : Int32)] A7)).bind (fun z8 => ywr z8.2 v0 z8.1 v4 (fun A9 => (yi ((ycall n) 143 [.int x1, .int (4 : Int32)] A9)).bind (fun z10 => ywr z10.2 v0 z10.1 (0 : Int32) (fun A11 => yrd A11 v0 (1 : Int32) (fun x12 => ywr A11 v0 (1 : Int32) (x12 + (1 : Int32)) (fun A13 => some (none, A13)))))))))))))) := (ybig_blk 43 _).trans (z_aload_n cd_X12_errsIn_0 (j := 0) rfl rfl (p := 1) rfl (zgo rfl (z_iconst cd_X12_errsIn_1 ki_1 (p := 2) rfl (zgo rfl (z_iaload cd_X12_errsIn_2 (p := 3) rfl (fun _ => (zgo rfl (z_istore cd_X12_errsIn_3 rfl (p := 5) rfl (zgo rfl (z_aload_n cd_X12_errsIn_5 (j := 0) rfl rfl (p := 6) rfl (zgo rfl (z_iload cd_X12_errsIn_6 rfl (p := 8) rfl (zgo rfl (z_iconst cd_X12_errsIn_8 ki_0 (p := 9) rfl (zgo rfl (z_cs1 cd_X12_errsIn_9 (zs (key := 163) (by decide)) cl_X12_c163 rfl rfl rfl rfl (p := 12) rfl (fun _ => (zgo rfl (z_iload_n cd_X12_errsIn_12 (j := 1) rfl rfl (p := 13) rfl (zgo rfl (z_iastore cd_X12_errsIn_13 (p := 14) rfl (fun _ => (zgo rfl (z_aload_n cd_X12_errsIn_14 (j := 0) rfl rfl (p := 15) rfl (zgo rfl (z_iload cd_X12_errsIn_15 rfl (p := 17) rfl (zgo rfl (z_iconst cd_X12_errsIn_17 ki_1 (p := 18) rfl (zgo rfl (z_cs1 cd_X12_errsIn_18 (zs (key := 163) (by decide)) cl_X12_c163 rfl rfl rfl rfl (p := 21) rfl (fun _ => (zgo rfl (z_iload_n cd_X12_errsIn_21 (j := 2) rfl rfl (p := 22) rfl (zgo rfl (z_iastore cd_X12_errsIn_22 (p := 23) rfl (fun _ => (zgo rfl (z_aload_n cd_X12_errsIn_23 (j := 0) rfl rfl (p := 24) rfl (zgo rfl (z_iload cd_X12_errsIn_24 rfl (p := 26) rfl (zgo rfl (z_iconst cd_X12_errsIn_26 ki_2 (p := 27) rfl (zgo rfl (z_cs1 cd_X12_errsIn_27 (zs (key := 163) (by decide)) cl_X12_c163 rfl rfl rfl rfl (p := 30) rfl (fun _ => (zgo rfl (z_iload_n cd_X12_errsIn_30 (j := 3) rfl rfl (p := 31) rfl (zgo rfl (z_iastore cd_X12_errsIn_31 (p := 32) rfl (fun _ => (zgo rfl (z_aload_n cd_X12_errsIn_32 (j := 0) rfl rfl (p := 33) rfl (zgo rfl (z_iload cd_X12_errsIn_33 rfl (p := 35) rfl (zgo rfl (z_iconst cd_X12_errsIn_35 ki_3 (p := 36) rfl (zgo rfl (z_cs1 cd_X12_errsIn_36 (zs (key := 163) (by decide)) cl_X12_c163 rfl rfl rfl rfl (p := 39) rfl (fun _ => (zgo rfl (z_iload cd_X12_errsIn_39 rfl (p := 41) rfl (zgo rfl (z_iastore cd_X12_errsIn_41 (p := 42) rfl (fun _ => (zgo rfl (z_aload_n cd_X12_errsIn_42 (j := 0) rfl rfl (p := 43) rfl (zgo rfl (z_iload cd_X12_errsIn_43 rfl (p := 45) rfl (zgo rfl (z_iconst cd_X12_errsIn_45 ki_4 (p := 46) rfl (zgo rfl (z_cs1 cd_X12_errsIn_46 (zs (key := 163) (by decide)) cl_X12_c163 rfl rfl rfl rfl (p := 49) rfl (fun _ => (zgo rfl (z_iconst cd_X12_errsIn_49 ki_0 (p := 50) rfl (zgo rfl (z_iastore cd_X12_errsIn_50 (p := 51) rfl (fun _ => (zgo rfl (z_aload_n cd_X12_errsIn_51 (j := 0) rfl rfl (p := 52) rfl (zgo rfl (z_iconst cd_X12_errsIn_52 ki_1 (p := 53) rfl (zgo rfl (z_dup2 cd_X12_errsIn_53 (p := 54) rfl (zgo rfl (z_iaload cd_X12_errsIn_54 (p := 55) rfl (fun _ => (zgo rfl (z_iconst cd_X12_errsIn_55 ki_1 (p := 56) rfl (zgo rfl (z_iadd cd_X12_errsIn_56 (p := 57) rfl (zgo rfl (z_iastore cd_X12_errsIn_57 (p := 58) rfl (fun _ => (zgo rfl (z_ret cd_X12_errsIn_58 rfl))))))))))))))))))))))))))))))))))))))))))))))))))))))))))))))))))))))))))))))))))))))))))))))))
theorem cd_X12_correctsIn_0 : ylk m_X12_correctsIn.2.2.2.2.1 0 = some (.aload_n 0) := by decide +kernel
theorem cd_X12_correctsIn_1 : ylk m_X12_correctsIn.2.2.2.2.1 1 = some (.iload_n 2) := by decide +kernel
theorem cd_X12_correctsIn_2 : ylk m_X12_correctsIn.2.2.2.2.1 2 = some (.iconst 4) := by decide +kernel
theorem cd_X12_correctsIn_3 : ylk m_X12_correctsIn.2.2.2.2.1 3 = some (.invokestatic 54) := by decide +kernel
theorem cd_X12_correctsIn_6 : ylk m_X12_correctsIn.2.2.2.2.1 6 = some (.iconst 1) := by decide +kernel
theorem cd_X12_correctsIn_7 : ylk m_X12_correctsIn.2.2.2.2.1 7 = some (.iastore) := by decide +kernel
theorem cd_X12_correctsIn_8 : ylk m_X12_correctsIn.2.2.2.2.1 8 = some (.aload_n 0) := by decide +kernel
theorem cd_X12_correctsIn_9 : ylk m_X12_correctsIn.2.2.2.2.1 9 = some (.iload_n 2) := by decide +kernel
theorem cd_X12_correctsIn_10 : ylk m_X12_correctsIn.2.2.2.2.1 10 = some (.iconst 2) := by decide +kernel
theorem cd_X12_correctsIn_11 : ylk m_X12_correctsIn.2.2.2.2.1 11 = some (.invokestatic 54) := by decide +kernel
theorem cd_X12_correctsIn_14 : ylk m_X12_correctsIn.2.2.2.2.1 14 = some (.dup2) := by decide +kernel
theorem cd_X12_correctsIn_15 : ylk m_X12_correctsIn.2.2.2.2.1 15 = some (.iaload) := by decide +kernel
theorem cd_X12_correctsIn_16 : ylk m_X12_correctsIn.2.2.2.2.1 16 = some (.iconst 2) := by decide +kernel
theorem cd_X12_correctsIn_17 : ylk m_X12_correctsIn.2.2.2.2.1 17 = some (.idiv) := by decide +kernel
theorem cd_X12_correctsIn_18 : ylk m_X12_correctsIn.2.2.2.2.1 18 = some (.iastore) := by decide +kernel
theorem cd_X12_correctsIn_19 : ylk m_X12_correctsIn.2.2.2.2.1 19 = some (.aload_n 0) := by decide +kernel
theorem cd_X12_correctsIn_20 : ylk m_X12_correctsIn.2.2.2.2.1 20 = some (.iload_n 1) := by decide +kernel
theorem cd_X12_correctsIn_21 : ylk m_X12_correctsIn.2.2.2.2.1 21 = some (.iconst 2) := by decide +kernel
theorem cd_X12_correctsIn_22 : ylk m_X12_correctsIn.2.2.2.2.1 22 = some (.invokestatic 50) := by decide +kernel
theorem cd_X12_correctsIn_25 : ylk m_X12_correctsIn.2.2.2.2.1 25 = some (.iconst 0) := by decide +kernel
theorem cd_X12_correctsIn_26 : ylk m_X12_correctsIn.2.2.2.2.1 26 = some (.iastore) := by decide +kernel
theorem cd_X12_correctsIn_27 : ylk m_X12_correctsIn.2.2.2.2.1 27 = some (.return_) := by decide +kernel
noncomputable abbrev yb_X12_correctsIn (C : yC) : ySt → Option (Option Value × yM) := yrn m_X12_correctsIn C
theorem en_X12_correctsIn (n : Nat) (A : yM) (v0 : Nat) (v1 : Int32) (v2 : Int32) : ycall (n + 1) 161 [.ref v0, .int v1, .int v2] A = (yi ((ycall n) 143 [.int v2, .int (4 : Int32)] A)).bind (fun z1 => ywr z1.2 v0 z1.1 (1 : Int32) (fun A2 => (yi ((ycall n) 143 [.int v2, .int (2 : Int32)] A2)).bind (fun z3 => yrd z3.2 v0 z3.1 (fun x4 => if (2 : Int32) = 0 then none else (ywr z3.2 v0 z3.1 (x4 / (2 : Int32)) (fun A5 => (yi ((ycall n) 142 [.int v1, .int (2 : Int32)] A5)).bind (fun z6 => ywr z6.2 v0 z6.1 (0 : Int32) (fun A7 => some (none, A7))))))))) := (ybig_blk 23 _).trans (z_aload_n cd_X12_correctsIn_0 (j := 0) rfl rfl (p := 1) rfl (zgo rfl (z_iload_n cd_X12_correctsIn_1 (j := 2) rfl rfl (p := 2) rfl (zgo rfl (z_iconst cd_X12_correctsIn_2 ki_4 (p := 3) rfl (zgo rfl (z_cs1 cd_X12_correctsIn_3 (zs (key := 163) (by decide)) cl_X12_c163 rfl rfl rfl rfl (p := 6) rfl (fun _ => (zgo rfl (z_iconst cd_X12_correctsIn_6 ki_1 (p := 7) rfl (zgo rfl (z_iastore cd_X12_correctsIn_7 (p := 8) rfl (fun _ => (zgo rfl (z_aload_n cd_X12_correctsIn_8 (j := 0) rfl rfl (p := 9) rfl (zgo rfl (z_iload_n cd_X12_correctsIn_9 (j := 2) rfl rfl (p := 10) rfl (zgo rfl (z_iconst cd_X12_correctsIn_10 ki_2 (p := 11) rfl (zgo rfl (z_cs1 cd_X12_correctsIn_11 (zs (key := 163) (by decide)) cl_X12_c163 rfl rfl rfl rfl (p := 14) rfl (fun _ => (zgo rfl (z_dup2 cd_X12_correctsIn_14 (p := 15) rfl (zgo rfl (z_iaload cd_X12_correctsIn_15 (p := 16) rfl (fun _ => (zgo rfl (z_iconst cd_X12_correctsIn_16 ki_2 (p := 17) rfl (zgo rfl (z_idiv cd_X12_correctsIn_17 (p := 18) rfl (zgo rfl (z_iastore cd_X12_correctsIn_18 (p := 19) rfl (fun _ => (zgo rfl (z_aload_n cd_X12_correctsIn_19 (j := 0) rfl rfl (p := 20) rfl (zgo rfl (z_iload_n cd_X12_correctsIn_20 (j := 1) rfl rfl (p := 21) rfl (zgo rfl (z_iconst cd_X12_correctsIn_21 ki_2 (p := 22) rfl (zgo rfl (z_cs1 cd_X12_correctsIn_22 (zs (key := 151) (by decide)) cl_X12_c151 rfl rfl rfl rfl (p := 25) rfl (fun _ => (zgo rfl (z_iconst cd_X12_correctsIn_25 ki_0 (p := 26) rfl (zgo rfl (z_iastore cd_X12_correctsIn_26 (p := 27) rfl (fun _ => (zgo rfl (z_ret cd_X12_correctsIn_27 rfl))))))))))))))))))))))))))))))))))))))))))))))))))
theorem cd_X12_canCorrect_0 : ylk m_X12_canCorrect.2.2.2.2.1 0 = some (.aload_n 0) := by decide +kernel
theorem cd_X12_canCorrect_1 : ylk m_X12_canCorrect.2.2.2.2.1 1 = some (.getfield 9) := by decide +kernel
theorem cd_X12_canCorrect_4 : ylk m_X12_canCorrect.2.2.2.2.1 4 = some (.iload_n 1) := by decide +kernel
theorem cd_X12_canCorrect_5 : ylk m_X12_canCorrect.2.2.2.2.1 5 = some (.invokestatic 80) := by decide +kernel
theorem cd_X12_canCorrect_8 : ylk m_X12_canCorrect.2.2.2.2.1 8 = some (.ifCond .eq 34) := by decide +kernel
theorem cd_X12_canCorrect_11 : ylk m_X12_canCorrect.2.2.2.2.1 11 = some (.aload_n 0) := by decide +kernel
theorem cd_X12_canCorrect_12 : ylk m_X12_canCorrect.2.2.2.2.1 12 = some (.getfield 9) := by decide +kernel
theorem cd_X12_canCorrect_15 : ylk m_X12_canCorrect.2.2.2.2.1 15 = some (.iload_n 2) := by decide +kernel
theorem cd_X12_canCorrect_16 : ylk m_X12_canCorrect.2.2.2.2.1 16 = some (.iconst 0) := by decide +kernel
theorem cd_X12_canCorrect_17 : ylk m_X12_canCorrect.2.2.2.2.1 17 = some (.invokestatic 54) := by decide +kernel
theorem cd_X12_canCorrect_20 : ylk m_X12_canCorrect.2.2.2.2.1 20 = some (.iaload) := by decide +kernel
theorem cd_X12_canCorrect_21 : ylk m_X12_canCorrect.2.2.2.2.1 21 = some (.iload_n 1) := by decide +kernel
theorem cd_X12_canCorrect_22 : ylk m_X12_canCorrect.2.2.2.2.1 22 = some (.if_icmp .eq 20) := by decide +kernel
theorem cd_X12_canCorrect_25 : ylk m_X12_canCorrect.2.2.2.2.1 25 = some (.aload_n 0) := by decide +kernel
theorem cd_X12_canCorrect_26 : ylk m_X12_canCorrect.2.2.2.2.1 26 = some (.getfield 9) := by decide +kernel
theorem cd_X12_canCorrect_29 : ylk m_X12_canCorrect.2.2.2.2.1 29 = some (.iload_n 2) := by decide +kernel
theorem cd_X12_canCorrect_30 : ylk m_X12_canCorrect.2.2.2.2.1 30 = some (.iconst 4) := by decide +kernel
theorem cd_X12_canCorrect_31 : ylk m_X12_canCorrect.2.2.2.2.1 31 = some (.invokestatic 54) := by decide +kernel
theorem cd_X12_canCorrect_34 : ylk m_X12_canCorrect.2.2.2.2.1 34 = some (.iaload) := by decide +kernel
theorem cd_X12_canCorrect_35 : ylk m_X12_canCorrect.2.2.2.2.1 35 = some (.ifCond .ne 7) := by decide +kernel
theorem cd_X12_canCorrect_38 : ylk m_X12_canCorrect.2.2.2.2.1 38 = some (.iconst 1) := by decide +kernel
theorem cd_X12_canCorrect_39 : ylk m_X12_canCorrect.2.2.2.2.1 39 = some (.goto 4) := by decide +kernel
theorem cd_X12_canCorrect_42 : ylk m_X12_canCorrect.2.2.2.2.1 42 = some (.iconst 0) := by decide +kernel
theorem cd_X12_canCorrect_43 : ylk m_X12_canCorrect.2.2.2.2.1 43 = some (.ireturn) := by decide +kernel
noncomputable abbrev yb_X12_canCorrect (C : yC) : ySt → Option (Option Value × yM) := yrn m_X12_canCorrect C
theorem en_X12_canCorrect (n : Nat) (A : yM) (v0 : Nat) (v1 : Int32) (v2 : Int32) : ycall (n + 1) 162 [.ref v0, .int v1, .int v2] A = ygR A v0 11 0 (fun a1 => (yi ((ycall n) 146 [.ref a1, .int v1] A)).bind (fun z2 => if z2.1 = 0 then (if (0 : Int32) = 0 ∨ (0 : Int32) = 1 then some (some (.int (0 : Int32)), z2.2) else none) else (ygR z2.2 v0 11 0 (fun a3 => (yi ((ycall n) 143 [.int v2, .int (0 : Int32)] z2.2)).bind (fun z4 => yrd z4.2 a3 z4.1 (fun x5 => if x5 = v1 then (if (0 : Int32) = 0 ∨ (0 : Int32) = 1 then some (some (.int (0 : Int32)), z4.2) else none) else (ygR z4.2 v0 11 0 (fun a6 => (yi ((ycall n) 143 [.int v2, .int (4 : Int32)] z4.2)).bind (fun z7 => yrd z7.2 a6 z7.1 (fun x8 => if x8 = 0 then (if (1 : Int32) = 0 ∨ (1 : Int32) = 1 then some (some (.int (1 : Int32)), z7.2) else none) else (if (0 : Int32) = 0 ∨ (0 : Int32) = 1 then some (some (.int (0 : Int32)), z7.2) else none))))))))))) := (ybig_blk 24 _).trans (z_aload_n cd_X12_canCorrect_0 (j := 0) rfl rfl (p := 1) rfl (zgo rfl (z_getR cd_X12_canCorrect_1 fd_X12_9 (p := 4) rfl (fun _ => (zgo rfl (z_iload_n cd_X12_canCorrect_4 (j := 1) rfl rfl (p := 5) rfl (zgo rfl (z_cs1 cd_X12_canCorrect_5 (zs (key := 241) (by decide)) cl_X12_c241 rfl rfl rfl rfl (p := 8) rfl (fun _ => (zgo rfl (z_if_eq cd_X12_canCorrect_8 (p := 42) rfl (p2 := 11) rfl (zgo rfl (z_iconst cd_X12_canCorrect_42 ki_0 (p := 43) rfl (zgo rfl (z_zret cd_X12_canCorrect_43 rfl)))) (zgo rfl (z_aload_n cd_X12_canCorrect_11 (j := 0) rfl rfl (p := 12) rfl (zgo rfl (z_getR cd_X12_canCorrect_12 fd_X12_9 (p := 15) rfl (fun _ => (zgo rfl (z_iload_n cd_X12_canCorrect_15 (j := 2) rfl rfl (p := 16) rfl (zgo rfl (z_iconst cd_X12_canCorrect_16 ki_0 (p := 17) rfl (zgo rfl (z_cs1 cd_X12_canCorrect_17 (zs (key := 163) (by decide)) cl_X12_c163 rfl rfl rfl rfl (p := 20) rfl (fun _ => (zgo rfl (z_iaload cd_X12_canCorrect_20 (p := 21) rfl (fun _ => (zgo rfl (z_iload_n cd_X12_canCorrect_21 (j := 1) rfl rfl (p := 22) rfl (zgo rfl (z_ic_eq cd_X12_canCorrect_22 (p := 42) rfl (p2 := 25) rfl (zgo rfl (z_iconst cd_X12_canCorrect_42 ki_0 (p := 43) rfl (zgo rfl (z_zret cd_X12_canCorrect_43 rfl)))) (zgo rfl (z_aload_n cd_X12_canCorrect_25 (j := 0) rfl rfl (p := 26) rfl (zgo rfl (z_getR cd_X12_canCorrect_26 fd_X12_9 (p := 29) rfl (fun _ => (zgo rfl (z_iload_n cd_X12_canCorrect_29 (j := 2) rfl rfl (p := 30) rfl (zgo rfl (z_iconst cd_X12_canCorrect_30 ki_4 (p := 31) rfl (zgo rfl (z_cs1 cd_X12_canCorrect_31 (zs (key := 163) (by decide)) cl_X12_c163 rfl rfl rfl rfl (p := 34) rfl (fun _ => (zgo rfl (z_iaload cd_X12_canCorrect_34 (p := 35) rfl (fun _ => (zgo rfl (z_if_ne cd_X12_canCorrect_35 (p := 42) rfl (p2 := 38) rfl (zgo rfl (z_iconst cd_X12_canCorrect_38 ki_1 (p := 39) rfl (zgo rfl (z_goto cd_X12_canCorrect_39 (p := 43) rfl (zgo rfl (z_zret cd_X12_canCorrect_43 rfl)))))) (zgo rfl (z_iconst cd_X12_canCorrect_42 ki_0 (p := 43) rfl (zgo rfl (z_zret cd_X12_canCorrect_43 rfl)))))))))))))))))))))))))))))))))))))))))))))))))))
theorem cd_X12_here_0 : ylk m_X12_here.2.2.2.2.1 0 = some (.aload_n 0) := by decide +kernel
theorem cd_X12_here_1 : ylk m_X12_here.2.2.2.2.1 1 = some (.getfield 92) := by decide +kernel
theorem cd_X12_here_4 : ylk m_X12_here.2.2.2.2.1 4 = some (.aload_n 0) := by decide +kernel
theorem cd_X12_here_5 : ylk m_X12_here.2.2.2.2.1 5 = some (.getfield 96) := by decide +kernel
theorem cd_X12_here_8 : ylk m_X12_here.2.2.2.2.1 8 = some (.if_icmp .ge 24) := by decide +kernel
theorem cd_X12_here_11 : ylk m_X12_here.2.2.2.2.1 11 = some (.aload_n 0) := by decide +kernel
theorem cd_X12_here_12 : ylk m_X12_here.2.2.2.2.1 12 = some (.getfield 43) := by decide +kernel
theorem cd_X12_here_15 : ylk m_X12_here.2.2.2.2.1 15 = some (.aload_n 0) := by decide +kernel
theorem cd_X12_here_16 : ylk m_X12_here.2.2.2.2.1 16 = some (.getfield 99) := by decide +kernel
theorem cd_X12_here_19 : ylk m_X12_here.2.2.2.2.1 19 = some (.aload_n 0) := by decide +kernel
theorem cd_X12_here_20 : ylk m_X12_here.2.2.2.2.1 20 = some (.getfield 92) := by decide +kernel
theorem cd_X12_here_23 : ylk m_X12_here.2.2.2.2.1 23 = some (.iadd) := by decide +kernel
theorem cd_X12_here_24 : ylk m_X12_here.2.2.2.2.1 24 = some (.iaload) := by decide +kernel
theorem cd_X12_here_25 : ylk m_X12_here.2.2.2.2.1 25 = some (.sipush 255) := by decide +kernel
theorem cd_X12_here_28 : ylk m_X12_here.2.2.2.2.1 28 = some (.iand) := by decide +kernel
theorem cd_X12_here_29 : ylk m_X12_here.2.2.2.2.1 29 = some (.goto 4) := by decide +kernel
theorem cd_X12_here_32 : ylk m_X12_here.2.2.2.2.1 32 = some (.iconst (-1)) := by decide +kernel
theorem cd_X12_here_33 : ylk m_X12_here.2.2.2.2.1 33 = some (.ireturn) := by decide +kernel
noncomputable abbrev yb_X12_here (C : yC) : ySt → Option (Option Value × yM) := yrn m_X12_here C
theorem en_X12_here (n : Nat) (A : yM) (v0 : Nat) : ycall (n + 1) 163 [.ref v0] A = ygI A v0 11 5 (fun x1 => ygI A v0 11 7 (fun x2 => if x2 ≤ x1 then (some (some (.int (-1 : Int32)), A)) else (ygR A v0 11 16 (fun a3 => ygI A v0 11 6 (fun x4 => ygI A v0 11 5 (fun x5 => yrd A a3 (x4 + x5) (fun x6 => some (some (.int (x6 &&& (255 : Int32))), A)))))))) := (ybig_blk 18 _).trans (z_aload_n cd_X12_here_0 (j := 0) rfl rfl (p := 1) rfl (zgo rfl (z_getI cd_X12_here_1 fd_X12_92 (p := 4) rfl (fun _ => (zgo rfl (z_aload_n cd_X12_here_4 (j := 0) rfl rfl (p := 5) rfl (zgo rfl (z_getI cd_X12_here_5 fd_X12_96 (p := 8) rfl (fun _ => (zgo rfl (z_ic_ge cd_X12_here_8 (p := 32) rfl (p2 := 11) rfl (zgo rfl (z_iconst cd_X12_here_32 ki_m1 (p := 33) rfl (zgo rfl (z_iret cd_X12_here_33 rfl)))) (zgo rfl (z_aload_n cd_X12_here_11 (j := 0) rfl rfl (p := 12) rfl (zgo rfl (z_getR cd_X12_here_12 fd_X12_43 (p := 15) rfl (fun _ => (zgo rfl (z_aload_n cd_X12_here_15 (j := 0) rfl rfl (p := 16) rfl (zgo rfl (z_getI cd_X12_here_16 fd_X12_99 (p := 19) rfl (fun _ => (zgo rfl (z_aload_n cd_X12_here_19 (j := 0) rfl rfl (p := 20) rfl (zgo rfl (z_getI cd_X12_here_20 fd_X12_92 (p := 23) rfl (fun _ => (zgo rfl (z_iadd cd_X12_here_23 (p := 24) rfl (zgo rfl (z_iaload cd_X12_here_24 (p := 25) rfl (fun _ => (zgo rfl (z_sipush cd_X12_here_25 ks_255 (p := 28) rfl (zgo rfl (z_iand cd_X12_here_28 (p := 29) rfl (zgo rfl (z_goto cd_X12_here_29 (p := 33) rfl (zgo rfl (z_iret cd_X12_here_33 rfl)))))))))))))))))))))))))))))))))))))))
theorem cd_X12_readsNumber_0 : ylk m_X12_readsNumber.2.2.2.2.1 0 = some (.aload_n 0) := by decide +kernel
theorem cd_X12_readsNumber_1 : ylk m_X12_readsNumber.2.2.2.2.1 1 = some (.getfield 22) := by decide +kernel
theorem cd_X12_readsNumber_4 : ylk m_X12_readsNumber.2.2.2.2.1 4 = some (.iload_n 1) := by decide +kernel
theorem cd_X12_readsNumber_5 : ylk m_X12_readsNumber.2.2.2.2.1 5 = some (.iconst 0) := by decide +kernel
theorem cd_X12_readsNumber_6 : ylk m_X12_readsNumber.2.2.2.2.1 6 = some (.iastore) := by decide +kernel
theorem cd_X12_readsNumber_7 : ylk m_X12_readsNumber.2.2.2.2.1 7 = some (.iconst 0) := by decide +kernel
theorem cd_X12_readsNumber_8 : ylk m_X12_readsNumber.2.2.2.2.1 8 = some (.istore_n 3) := by decide +kernel
theorem cd_X12_readsNumber_9 : ylk m_X12_readsNumber.2.2.2.2.1 9 = some (.iload_n 3) := by decide +kernel
theorem cd_X12_readsNumber_10 : ylk m_X12_readsNumber.2.2.2.2.1 10 = some (.iload_n 2) := by decide +kernel
theorem cd_X12_readsNumber_11 : ylk m_X12_readsNumber.2.2.2.2.1 11 = some (.if_icmp .ge 58) := by decide +kernel
theorem cd_X12_readsNumber_14 : ylk m_X12_readsNumber.2.2.2.2.1 14 = some (.aload_n 0) := by decide +kernel
theorem cd_X12_readsNumber_15 : ylk m_X12_readsNumber.2.2.2.2.1 15 = some (.invokevirtual 102) := by decide +kernel
theorem cd_X12_readsNumber_18 : ylk m_X12_readsNumber.2.2.2.2.1 18 = some (.bipush 48) := by decide +kernel
theorem cd_X12_readsNumber_20 : ylk m_X12_readsNumber.2.2.2.2.1 20 = some (.bipush 57) := by decide +kernel
theorem cd_X12_readsNumber_22 : ylk m_X12_readsNumber.2.2.2.2.1 22 = some (.invokestatic 46) := by decide +kernel
theorem cd_X12_readsNumber_25 : ylk m_X12_readsNumber.2.2.2.2.1 25 = some (.ifCond .ne 5) := by decide +kernel
theorem cd_X12_readsNumber_28 : ylk m_X12_readsNumber.2.2.2.2.1 28 = some (.iconst 0) := by decide +kernel
theorem cd_X12_readsNumber_29 : ylk m_X12_readsNumber.2.2.2.2.1 29 = some (.ireturn) := by decide +kernel
theorem cd_X12_readsNumber_30 : ylk m_X12_readsNumber.2.2.2.2.1 30 = some (.aload_n 0) := by decide +kernel
theorem cd_X12_readsNumber_31 : ylk m_X12_readsNumber.2.2.2.2.1 31 = some (.getfield 22) := by decide +kernel
theorem cd_X12_readsNumber_34 : ylk m_X12_readsNumber.2.2.2.2.1 34 = some (.iload_n 1) := by decide +kernel
theorem cd_X12_readsNumber_35 : ylk m_X12_readsNumber.2.2.2.2.1 35 = some (.bipush 10) := by decide +kernel
theorem cd_X12_readsNumber_37 : ylk m_X12_readsNumber.2.2.2.2.1 37 = some (.aload_n 0) := by decide +kernel
theorem cd_X12_readsNumber_38 : ylk m_X12_readsNumber.2.2.2.2.1 38 = some (.getfield 22) := by decide +kernel
theorem cd_X12_readsNumber_41 : ylk m_X12_readsNumber.2.2.2.2.1 41 = some (.iload_n 1) := by decide +kernel
theorem cd_X12_readsNumber_42 : ylk m_X12_readsNumber.2.2.2.2.1 42 = some (.iaload) := by decide +kernel
theorem cd_X12_readsNumber_43 : ylk m_X12_readsNumber.2.2.2.2.1 43 = some (.imul) := by decide +kernel
theorem cd_X12_readsNumber_44 : ylk m_X12_readsNumber.2.2.2.2.1 44 = some (.aload_n 0) := by decide +kernel
theorem cd_X12_readsNumber_45 : ylk m_X12_readsNumber.2.2.2.2.1 45 = some (.invokevirtual 102) := by decide +kernel
theorem cd_X12_readsNumber_48 : ylk m_X12_readsNumber.2.2.2.2.1 48 = some (.iadd) := by decide +kernel
theorem cd_X12_readsNumber_49 : ylk m_X12_readsNumber.2.2.2.2.1 49 = some (.bipush 48) := by decide +kernel
theorem cd_X12_readsNumber_51 : ylk m_X12_readsNumber.2.2.2.2.1 51 = some (.isub) := by decide +kernel
theorem cd_X12_readsNumber_52 : ylk m_X12_readsNumber.2.2.2.2.1 52 = some (.iastore) := by decide +kernel
theorem cd_X12_readsNumber_53 : ylk m_X12_readsNumber.2.2.2.2.1 53 = some (.aload_n 0) := by decide +kernel
theorem cd_X12_readsNumber_54 : ylk m_X12_readsNumber.2.2.2.2.1 54 = some (.dup) := by decide +kernel
theorem cd_X12_readsNumber_55 : ylk m_X12_readsNumber.2.2.2.2.1 55 = some (.getfield 92) := by decide +kernel
theorem cd_X12_readsNumber_58 : ylk m_X12_readsNumber.2.2.2.2.1 58 = some (.iconst 1) := by decide +kernel
theorem cd_X12_readsNumber_59 : ylk m_X12_readsNumber.2.2.2.2.1 59 = some (.iadd) := by decide +kernel
theorem cd_X12_readsNumber_60 : ylk m_X12_readsNumber.2.2.2.2.1 60 = some (.putfield 92) := by decide +kernel
theorem cd_X12_readsNumber_63 : ylk m_X12_readsNumber.2.2.2.2.1 63 = some (.iinc 3 1) := by decide +kernel
theorem cd_X12_readsNumber_66 : ylk m_X12_readsNumber.2.2.2.2.1 66 = some (.goto (-57)) := by decide +kernel
theorem cd_X12_readsNumber_69 : ylk m_X12_readsNumber.2.2.2.2.1 69 = some (.iconst 1) := by decide +kernel
theorem cd_X12_readsNumber_70 : ylk m_X12_readsNumber.2.2.2.2.1 70 = some (.ireturn) := by decide +kernel
noncomputable abbrev yb_X12_readsNumber (C : yC) : ySt → Option (Option Value × yM) := yrn m_X12_readsNumber C
theorem en_X12_readsNumber (n : Nat) (A : yM) (v0 : Nat) (v1 : Int32) (v2 : Int32) : ycall (n + 1) 164 [.ref v0, .int v1, .int v2] A = ygR A v0 11 8 (fun a1 => ywr A a1 v1 (0 : Int32) (fun A2 => yb_X12_readsNumber (ycall n) (9, [some (.ref v0), some (.int v1), some (.int v2), some (.int (0 : Int32))], [], A2))) := (ybig_blk 8 _).trans (z_aload_n cd_X12_readsNumber_0 (j := 0) rfl rfl (p := 1) rfl (zgo rfl (z_getR cd_X12_readsNumber_1 fd_X12_22 (p := 4) rfl (fun _ => (zgo rfl (z_iload_n cd_X12_readsNumber_4 (j := 1) rfl rfl (p := 5) rfl (zgo rfl (z_iconst cd_X12_readsNumber_5 ki_0 (p := 6) rfl (zgo rfl (z_iastore cd_X12_readsNumber_6 (p := 7) rfl (fun _ => (zgo rfl (z_iconst cd_X12_readsNumber_7 ki_0 (p := 8) rfl (zgo rfl (z_istore_n cd_X12_readsNumber_8 (j := 3) rfl rfl (p := 9) rfl (zcut (p := 9) rfl rfl))))))))))))))))
theorem bk_X12_readsNumber_9 (C : yC) (A : yM) (v0 : Nat) (v1 : Int32) (v2 : Int32) (v3 : Int32) : yb_X12_readsNumber C (9, [some (.ref v0), some (.int v1), some (.int v2), some (.int v3)], [], A) = if v2 ≤ v3 then (if (1 : Int32) = 0 ∨ (1 : Int32) = 1 then some (some (.int (1 : Int32)), A) else none) else ((yi (yvt [(11, 163)] C [.ref v0] A)).bind (fun z1 => (yi (C 138 [.int z1.1, .int (48 : Int32), .int (57 : Int32)] z1.2)).bind (fun z2 => if z2.1 = 0 then (if (0 : Int32) = 0 ∨ (0 : Int32) = 1 then some (some (.int (0 : Int32)), z2.2) else none) else (ygR z2.2 v0 11 8 (fun a3 => ygR z2.2 v0 11 8 (fun a4 => yrd z2.2 a4 v1 (fun x5 => (yi (yvt [(11, 163)] C [.ref v0] z2.2)).bind (fun z6 => ywr z6.2 a3 v1 ((((10 : Int32) * x5) + z6.1) - (48 : Int32)) (fun A7 => ygI A7 v0 11 5 (fun x8 => ypI A7 v0 11 5 (x8 + (1 : Int32)) (fun A9 => yb_X12_readsNumber C (9, [some (.ref v0), some (.int v1), some (.int v2), some (.int (v3 + (1 : Int32)))], [], A9)))))))))))) := (ybig_blk 33 _).trans (z_iload_n cd_X12_readsNumber_9 (j := 3) rfl rfl (p := 10) rfl (zgo rfl (z_iload_n cd_X12_readsNumber_10 (j := 2) rfl rfl (p := 11) rfl (zgo rfl (z_ic_ge cd_X12_readsNumber_11 (p := 69) rfl (p2 := 14) rfl (zgo rfl (z_iconst cd_X12_readsNumber_69 ki_1 (p := 70) rfl (zgo rfl (z_zret cd_X12_readsNumber_70 rfl)))) (zgo rfl (z_aload_n cd_X12_readsNumber_14 (j := 0) rfl rfl (p := 15) rfl (zgo rfl (z_cv1 cd_X12_readsNumber_15 (zv (key := 306) (by decide)) cl_X12_c306 rfl rfl rfl rfl (p := 18) rfl (fun _ => (zgo rfl (z_bipush cd_X12_readsNumber_18 kb_48 (p := 20) rfl (zgo rfl (z_bipush cd_X12_readsNumber_20 kb_57 (p := 22) rfl (zgo rfl (z_cs1 cd_X12_readsNumber_22 (zs (key := 139) (by decide)) cl_X12_c139 rfl rfl rfl rfl (p := 25) rfl (fun _ => (zgo rfl (z_if_ne cd_X12_readsNumber_25 (p := 30) rfl (p2 := 28) rfl (zgo rfl (z_iconst cd_X12_readsNumber_28 ki_0 (p := 29) rfl (zgo rfl (z_zret cd_X12_readsNumber_29 rfl)))) (zgo rfl (z_aload_n cd_X12_readsNumber_30 (j := 0) rfl rfl (p := 31) rfl (zgo rfl (z_getR cd_X12_readsNumber_31 fd_X12_22 (p := 34) rfl (fun _ => (zgo rfl (z_iload_n cd_X12_readsNumber_34 (j := 1) rfl rfl (p := 35) rfl (zgo rfl (z_bipush cd_X12_readsNumber_35 kb_10 (p := 37) rfl (zgo rfl (z_aload_n cd_X12_readsNumber_37 (j := 0) rfl rfl (p := 38) rfl (zgo rfl (z_getR cd_X12_readsNumber_38 fd_X12_22 (p := 41) rfl (fun _ => (zgo rfl (z_iload_n cd_X12_readsNumber_41 (j := 1) rfl rfl (p := 42) rfl (zgo rfl (z_iaload cd_X12_readsNumber_42 (p := 43) rfl (fun _ => (zgo rfl (z_imul cd_X12_readsNumber_43 (p := 44) rfl (zgo rfl (z_aload_n cd_X12_readsNumber_44 (j := 0) rfl rfl (p := 45) rfl (zgo rfl (z_cv1 cd_X12_readsNumber_45 (zv (key := 306) (by decide)) cl_X12_c306 rfl rfl rfl rfl (p := 48) rfl (fun _ => (zgo rfl (z_iadd cd_X12_readsNumber_48 (p := 49) rfl (zgo rfl (z_bipush cd_X12_readsNumber_49 kb_48 (p := 51) rfl (zgo rfl (z_isub cd_X12_readsNumber_51 (p := 52) rfl (zgo rfl (z_iastore cd_X12_readsNumber_52 (p := 53) rfl (fun _ => (zgo rfl (z_aload_n cd_X12_readsNumber_53 (j := 0) rfl rfl (p := 54) rfl (zgo rfl (z_dup cd_X12_readsNumber_54 (p := 55) rfl (zgo rfl (z_getI cd_X12_readsNumber_55 fd_X12_92 (p := 58) rfl (fun _ => (zgo rfl (z_iconst cd_X12_readsNumber_58 ki_1 (p := 59) rfl (zgo rfl (z_iadd cd_X12_readsNumber_59 (p := 60) rfl (zgo rfl (z_putI cd_X12_readsNumber_60 fd_X12_92 (p := 63) rfl (fun _ => (zgo rfl (z_iinc cd_X12_readsNumber_63 ki_1 rfl rfl (p := 66) rfl (zgo rfl (z_goto cd_X12_readsNumber_66 (p := 9) rfl (zcut (p := 9) rfl rfl)))))))))))))))))))))))))))))))))))))))))))))))))))))))))))))))))))))))))
theorem cd_X12_readsStatement_0 : ylk m_X12_readsStatement.2.2.2.2.1 0 = some (.aload_n 0) := by decide +kernel
theorem cd_X12_readsStatement_1 : ylk m_X12_readsStatement.2.2.2.2.1 1 = some (.invokevirtual 102) := by decide +kernel
theorem cd_X12_readsStatement_4 : ylk m_X12_readsStatement.2.2.2.2.1 4 = some (.istore_n 1) := by decide +kernel
theorem cd_X12_readsStatement_5 : ylk m_X12_readsStatement.2.2.2.2.1 5 = some (.aload_n 0) := by decide +kernel
theorem cd_X12_readsStatement_6 : ylk m_X12_readsStatement.2.2.2.2.1 6 = some (.dup) := by decide +kernel
theorem cd_X12_readsStatement_7 : ylk m_X12_readsStatement.2.2.2.2.1 7 = some (.getfield 92) := by decide +kernel
theorem cd_X12_readsStatement_10 : ylk m_X12_readsStatement.2.2.2.2.1 10 = some (.iconst 1) := by decide +kernel
theorem cd_X12_readsStatement_11 : ylk m_X12_readsStatement.2.2.2.2.1 11 = some (.iadd) := by decide +kernel
theorem cd_X12_readsStatement_12 : ylk m_X12_readsStatement.2.2.2.2.1 12 = some (.putfield 92) := by decide +kernel
theorem cd_X12_readsStatement_15 : ylk m_X12_readsStatement.2.2.2.2.1 15 = some (.iload_n 1) := by decide +kernel
theorem cd_X12_readsStatement_16 : ylk m_X12_readsStatement.2.2.2.2.1 16 = some (.lookupswitch 171 #[(99, 124), (100, 151), (101, 79), (115, 52), (119, 161)]) := by decide +kernel
theorem cd_X12_readsStatement_68 : ylk m_X12_readsStatement.2.2.2.2.1 68 = some (.aload_n 0) := by decide +kernel
theorem cd_X12_readsStatement_69 : ylk m_X12_readsStatement.2.2.2.2.1 69 = some (.iconst 0) := by decide +kernel
theorem cd_X12_readsStatement_70 : ylk m_X12_readsStatement.2.2.2.2.1 70 = some (.iconst 1) := by decide +kernel
theorem cd_X12_readsStatement_71 : ylk m_X12_readsStatement.2.2.2.2.1 71 = some (.invokevirtual 106) := by decide +kernel
theorem cd_X12_readsStatement_74 : ylk m_X12_readsStatement.2.2.2.2.1 74 = some (.ifCond .eq 16) := by decide +kernel
theorem cd_X12_readsStatement_77 : ylk m_X12_readsStatement.2.2.2.2.1 77 = some (.aload_n 0) := by decide +kernel
theorem cd_X12_readsStatement_78 : ylk m_X12_readsStatement.2.2.2.2.1 78 = some (.iconst 1) := by decide +kernel
theorem cd_X12_readsStatement_79 : ylk m_X12_readsStatement.2.2.2.2.1 79 = some (.iconst 1) := by decide +kernel
theorem cd_X12_readsStatement_80 : ylk m_X12_readsStatement.2.2.2.2.1 80 = some (.invokevirtual 106) := by decide +kernel
theorem cd_X12_readsStatement_83 : ylk m_X12_readsStatement.2.2.2.2.1 83 = some (.ifCond .eq 7) := by decide +kernel
theorem cd_X12_readsStatement_86 : ylk m_X12_readsStatement.2.2.2.2.1 86 = some (.iconst 1) := by decide +kernel
theorem cd_X12_readsStatement_87 : ylk m_X12_readsStatement.2.2.2.2.1 87 = some (.goto 4) := by decide +kernel
theorem cd_X12_readsStatement_90 : ylk m_X12_readsStatement.2.2.2.2.1 90 = some (.iconst 0) := by decide +kernel
theorem cd_X12_readsStatement_91 : ylk m_X12_readsStatement.2.2.2.2.1 91 = some (.istore_n 2) := by decide +kernel
theorem cd_X12_readsStatement_92 : ylk m_X12_readsStatement.2.2.2.2.1 92 = some (.goto 107) := by decide +kernel
theorem cd_X12_readsStatement_95 : ylk m_X12_readsStatement.2.2.2.2.1 95 = some (.aload_n 0) := by decide +kernel
theorem cd_X12_readsStatement_96 : ylk m_X12_readsStatement.2.2.2.2.1 96 = some (.iconst 0) := by decide +kernel
theorem cd_X12_readsStatement_97 : ylk m_X12_readsStatement.2.2.2.2.1 97 = some (.iconst 1) := by decide +kernel
theorem cd_X12_readsStatement_98 : ylk m_X12_readsStatement.2.2.2.2.1 98 = some (.invokevirtual 106) := by decide +kernel
theorem cd_X12_readsStatement_101 : ylk m_X12_readsStatement.2.2.2.2.1 101 = some (.ifCond .eq 34) := by decide +kernel
theorem cd_X12_readsStatement_104 : ylk m_X12_readsStatement.2.2.2.2.1 104 = some (.aload_n 0) := by decide +kernel
theorem cd_X12_readsStatement_105 : ylk m_X12_readsStatement.2.2.2.2.1 105 = some (.iconst 1) := by decide +kernel
theorem cd_X12_readsStatement_106 : ylk m_X12_readsStatement.2.2.2.2.1 106 = some (.iconst 1) := by decide +kernel
theorem cd_X12_readsStatement_107 : ylk m_X12_readsStatement.2.2.2.2.1 107 = some (.invokevirtual 106) := by decide +kernel
theorem cd_X12_readsStatement_110 : ylk m_X12_readsStatement.2.2.2.2.1 110 = some (.ifCond .eq 25) := by decide +kernel
theorem cd_X12_readsStatement_113 : ylk m_X12_readsStatement.2.2.2.2.1 113 = some (.aload_n 0) := by decide +kernel
theorem cd_X12_readsStatement_114 : ylk m_X12_readsStatement.2.2.2.2.1 114 = some (.iconst 2) := by decide +kernel
theorem cd_X12_readsStatement_115 : ylk m_X12_readsStatement.2.2.2.2.1 115 = some (.iconst 2) := by decide +kernel
theorem cd_X12_readsStatement_116 : ylk m_X12_readsStatement.2.2.2.2.1 116 = some (.invokevirtual 106) := by decide +kernel
theorem cd_X12_readsStatement_119 : ylk m_X12_readsStatement.2.2.2.2.1 119 = some (.ifCond .eq 16) := by decide +kernel
theorem cd_X12_readsStatement_122 : ylk m_X12_readsStatement.2.2.2.2.1 122 = some (.aload_n 0) := by decide +kernel
theorem cd_X12_readsStatement_123 : ylk m_X12_readsStatement.2.2.2.2.1 123 = some (.iconst 3) := by decide +kernel
theorem cd_X12_readsStatement_124 : ylk m_X12_readsStatement.2.2.2.2.1 124 = some (.iconst 2) := by decide +kernel
theorem cd_X12_readsStatement_125 : ylk m_X12_readsStatement.2.2.2.2.1 125 = some (.invokevirtual 106) := by decide +kernel
theorem cd_X12_readsStatement_128 : ylk m_X12_readsStatement.2.2.2.2.1 128 = some (.ifCond .eq 7) := by decide +kernel
theorem cd_X12_readsStatement_131 : ylk m_X12_readsStatement.2.2.2.2.1 131 = some (.iconst 1) := by decide +kernel
theorem cd_X12_readsStatement_132 : ylk m_X12_readsStatement.2.2.2.2.1 132 = some (.goto 4) := by decide +kernel
theorem cd_X12_readsStatement_135 : ylk m_X12_readsStatement.2.2.2.2.1 135 = some (.iconst 0) := by decide +kernel
theorem cd_X12_readsStatement_136 : ylk m_X12_readsStatement.2.2.2.2.1 136 = some (.istore_n 2) := by decide +kernel
theorem cd_X12_readsStatement_137 : ylk m_X12_readsStatement.2.2.2.2.1 137 = some (.goto 62) := by decide +kernel
theorem cd_X12_readsStatement_140 : ylk m_X12_readsStatement.2.2.2.2.1 140 = some (.aload_n 0) := by decide +kernel
theorem cd_X12_readsStatement_141 : ylk m_X12_readsStatement.2.2.2.2.1 141 = some (.iconst 0) := by decide +kernel
theorem cd_X12_readsStatement_142 : ylk m_X12_readsStatement.2.2.2.2.1 142 = some (.iconst 1) := by decide +kernel
theorem cd_X12_readsStatement_143 : ylk m_X12_readsStatement.2.2.2.2.1 143 = some (.invokevirtual 106) := by decide +kernel
theorem cd_X12_readsStatement_146 : ylk m_X12_readsStatement.2.2.2.2.1 146 = some (.ifCond .eq 16) := by decide +kernel
theorem cd_X12_readsStatement_149 : ylk m_X12_readsStatement.2.2.2.2.1 149 = some (.aload_n 0) := by decide +kernel
theorem cd_X12_readsStatement_150 : ylk m_X12_readsStatement.2.2.2.2.1 150 = some (.iconst 1) := by decide +kernel
theorem cd_X12_readsStatement_151 : ylk m_X12_readsStatement.2.2.2.2.1 151 = some (.iconst 2) := by decide +kernel
theorem cd_X12_readsStatement_152 : ylk m_X12_readsStatement.2.2.2.2.1 152 = some (.invokevirtual 106) := by decide +kernel
theorem cd_X12_readsStatement_155 : ylk m_X12_readsStatement.2.2.2.2.1 155 = some (.ifCond .eq 7) := by decide +kernel
theorem cd_X12_readsStatement_158 : ylk m_X12_readsStatement.2.2.2.2.1 158 = some (.iconst 1) := by decide +kernel
theorem cd_X12_readsStatement_159 : ylk m_X12_readsStatement.2.2.2.2.1 159 = some (.goto 4) := by decide +kernel
theorem cd_X12_readsStatement_162 : ylk m_X12_readsStatement.2.2.2.2.1 162 = some (.iconst 0) := by decide +kernel
theorem cd_X12_readsStatement_163 : ylk m_X12_readsStatement.2.2.2.2.1 163 = some (.istore_n 2) := by decide +kernel
theorem cd_X12_readsStatement_164 : ylk m_X12_readsStatement.2.2.2.2.1 164 = some (.goto 35) := by decide +kernel
theorem cd_X12_readsStatement_167 : ylk m_X12_readsStatement.2.2.2.2.1 167 = some (.aload_n 0) := by decide +kernel
theorem cd_X12_readsStatement_168 : ylk m_X12_readsStatement.2.2.2.2.1 168 = some (.iconst 0) := by decide +kernel
theorem cd_X12_readsStatement_169 : ylk m_X12_readsStatement.2.2.2.2.1 169 = some (.iconst 1) := by decide +kernel
theorem cd_X12_readsStatement_170 : ylk m_X12_readsStatement.2.2.2.2.1 170 = some (.invokevirtual 106) := by decide +kernel
theorem cd_X12_readsStatement_173 : ylk m_X12_readsStatement.2.2.2.2.1 173 = some (.istore_n 2) := by decide +kernel
theorem cd_X12_readsStatement_174 : ylk m_X12_readsStatement.2.2.2.2.1 174 = some (.goto 25) := by decide +kernel
theorem cd_X12_readsStatement_177 : ylk m_X12_readsStatement.2.2.2.2.1 177 = some (.aload_n 0) := by decide +kernel
theorem cd_X12_readsStatement_178 : ylk m_X12_readsStatement.2.2.2.2.1 178 = some (.iconst 0) := by decide +kernel
theorem cd_X12_readsStatement_179 : ylk m_X12_readsStatement.2.2.2.2.1 179 = some (.iconst 2) := by decide +kernel
theorem cd_X12_readsStatement_180 : ylk m_X12_readsStatement.2.2.2.2.1 180 = some (.invokevirtual 106) := by decide +kernel
theorem cd_X12_readsStatement_183 : ylk m_X12_readsStatement.2.2.2.2.1 183 = some (.istore_n 2) := by decide +kernel
theorem cd_X12_readsStatement_184 : ylk m_X12_readsStatement.2.2.2.2.1 184 = some (.goto 15) := by decide +kernel
theorem cd_X12_readsStatement_187 : ylk m_X12_readsStatement.2.2.2.2.1 187 = some (.aload_n 0) := by decide +kernel
theorem cd_X12_readsStatement_188 : ylk m_X12_readsStatement.2.2.2.2.1 188 = some (.dup) := by decide +kernel
theorem cd_X12_readsStatement_189 : ylk m_X12_readsStatement.2.2.2.2.1 189 = some (.getfield 92) := by decide +kernel
theorem cd_X12_readsStatement_192 : ylk m_X12_readsStatement.2.2.2.2.1 192 = some (.iconst 1) := by decide +kernel
theorem cd_X12_readsStatement_193 : ylk m_X12_readsStatement.2.2.2.2.1 193 = some (.isub) := by decide +kernel
theorem cd_X12_readsStatement_194 : ylk m_X12_readsStatement.2.2.2.2.1 194 = some (.putfield 92) := by decide +kernel
theorem cd_X12_readsStatement_197 : ylk m_X12_readsStatement.2.2.2.2.1 197 = some (.iconst 0) := by decide +kernel
theorem cd_X12_readsStatement_198 : ylk m_X12_readsStatement.2.2.2.2.1 198 = some (.ireturn) := by decide +kernel
theorem cd_X12_readsStatement_199 : ylk m_X12_readsStatement.2.2.2.2.1 199 = some (.iload_n 2) := by decide +kernel
theorem cd_X12_readsStatement_200 : ylk m_X12_readsStatement.2.2.2.2.1 200 = some (.ifCond .eq 12) := by decide +kernel
theorem cd_X12_readsStatement_203 : ylk m_X12_readsStatement.2.2.2.2.1 203 = some (.aload_n 0) := by decide +kernel
theorem cd_X12_readsStatement_204 : ylk m_X12_readsStatement.2.2.2.2.1 204 = some (.invokevirtual 102) := by decide +kernel
theorem cd_X12_readsStatement_207 : ylk m_X12_readsStatement.2.2.2.2.1 207 = some (.bipush 59) := by decide +kernel
theorem cd_X12_readsStatement_209 : ylk m_X12_readsStatement.2.2.2.2.1 209 = some (.if_icmp .eq 5) := by decide +kernel
theorem cd_X12_readsStatement_212 : ylk m_X12_readsStatement.2.2.2.2.1 212 = some (.iconst 0) := by decide +kernel
theorem cd_X12_readsStatement_213 : ylk m_X12_readsStatement.2.2.2.2.1 213 = some (.ireturn) := by decide +kernel
theorem cd_X12_readsStatement_214 : ylk m_X12_readsStatement.2.2.2.2.1 214 = some (.aload_n 0) := by decide +kernel
theorem cd_X12_readsStatement_215 : ylk m_X12_readsStatement.2.2.2.2.1 215 = some (.dup) := by decide +kernel
theorem cd_X12_readsStatement_216 : ylk m_X12_readsStatement.2.2.2.2.1 216 = some (.getfield 92) := by decide +kernel
theorem cd_X12_readsStatement_219 : ylk m_X12_readsStatement.2.2.2.2.1 219 = some (.iconst 1) := by decide +kernel
theorem cd_X12_readsStatement_220 : ylk m_X12_readsStatement.2.2.2.2.1 220 = some (.iadd) := by decide +kernel
theorem cd_X12_readsStatement_221 : ylk m_X12_readsStatement.2.2.2.2.1 221 = some (.putfield 92) := by decide +kernel
theorem cd_X12_readsStatement_224 : ylk m_X12_readsStatement.2.2.2.2.1 224 = some (.iconst 1) := by decide +kernel
theorem cd_X12_readsStatement_225 : ylk m_X12_readsStatement.2.2.2.2.1 225 = some (.ireturn) := by decide +kernel
noncomputable abbrev yb_X12_readsStatement (C : yC) : ySt → Option (Option Value × yM) := yrn m_X12_readsStatement C
theorem en_X12_readsStatement (n : Nat) (A : yM) (v0 : Nat) : ycall (n + 1) 165 [.ref v0] A = (yi (yvt [(11, 163)] (ycall n) [.ref v0] A)).bind (fun z1 => ygI z1.2 v0 11 5 (fun x2 => ypI z1.2 v0 11 5 (x2 + (1 : Int32)) (fun A3 => (if z1.1 = (99 : Int32) then ((yi (yvt [(11, 164)] (ycall n) [.ref v0, .int (0 : Int32), .int (1 : Int32)] A3)).bind (fun z14 => if z14.1 = 0 then (yb_X12_readsStatement (ycall n) (162, [some (.ref v0), none, none], [], z14.2)) else ((yi (yvt [(11, 164)] (ycall n) [.ref v0, .int (1 : Int32), .int (2 : Int32)] z14.2)).bind (fun z15 => if z15.1 = 0 then (yb_X12_readsStatement (ycall n) (162, [some (.ref v0), none, none], [], z15.2)) else (yb_X12_readsStatement (ycall n) (199, [some (.ref v0), none, some (.int (1 : Int32))], [], z15.2)))))) else (if z1.1 = (100 : Int32) then ((yi (yvt [(11, 164)] (ycall n) [.ref v0, .int (0 : Int32), .int (1 : Int32)] A3)).bind (fun z13 => yb_X12_readsStatement (ycall n) (199, [some (.ref v0), none, some (.int z13.1)], [], z13.2))) else (if z1.1 = (101 : Int32) then ((yi (yvt [(11, 164)] (ycall n) [.ref v0, .int (0 : Int32), .int (1 : Int32)] A3)).bind (fun z9 => if z9.1 = 0 then (yb_X12_readsStatement (ycall n) (135, [some (.ref v0), none, none], [], z9.2)) else ((yi (yvt [(11, 164)] (ycall n) [.ref v0, .int (1 : Int32), .int (1 : Int32)] z9.2)).bind (fun z10 => if z10.1 = 0 then (yb_X12_readsStatement (ycall n) (135, [some (.ref v0), none, none], [], z10.2)) else ((yi (yvt [(11, 164)] (ycall n) [.ref v0, .int (2 : Int32), .int (2 : Int32)] z10.2)).bind (fun z11 => if z11.1 = 0 then (yb_X12_readsStatement (ycall n) (135, [some (.ref v0), none, none], [], z11.2)) else ((yi (yvt [(11, 164)] (ycall n) [.ref v0, .int (3 : Int32), .int (2 : Int32)] z11.2)).bind (fun z12 => if z12.1 = 0 then (yb_X12_readsStatement (ycall n) (135, [some (.ref v0), none, none], [], z12.2)) else (yb_X12_readsStatement (ycall n) (199, [some (.ref v0), none, some (.int (1 : Int32))], [], z12.2)))))))))) else (if z1.1 = (115 : Int32) then ((yi (yvt [(11, 164)] (ycall n) [.ref v0, .int (0 : Int32), .int (1 : Int32)] A3)).bind (fun z7 => if z7.1 = 0 then (yb_X12_readsStatement (ycall n) (90, [some (.ref v0), none, none], [], z7.2)) else ((yi (yvt [(11, 164)] (ycall n) [.ref v0, .int (1 : Int32), .int (1 : Int32)] z7.2)).bind (fun z8 => if z8.1 = 0 then (yb_X12_readsStatement (ycall n) (90, [some (.ref v0), none, none], [], z8.2)) else (yb_X12_readsStatement (ycall n) (199, [some (.ref v0), none, some (.int (1 : Int32))], [], z8.2)))))) else (if z1.1 = (119 : Int32) then ((yi (yvt [(11, 164)] (ycall n) [.ref v0, .int (0 : Int32), .int (2 : Int32)] A3)).bind (fun z6 => yb_X12_readsStatement (ycall n) (199, [some (.ref v0), none, some (.int z6.1)], [], z6.2))) else (ygI A3 v0 11 5 (fun x4 => ypI A3 v0 11 5 (x4 - (1 : Int32)) (fun A5 => if (0 : Int32) = 0 ∨ (0 : Int32) = 1 then some (some (.int (0 : Int32)), A5) else none))))))))))) := (ybig_blk 36 _).trans (z_aload_n cd_X12_readsStatement_0 (j := 0) rfl rfl (p := 1) rfl (zgo rfl (z_cv1 cd_X12_readsStatement_1 (zv (key := 306) (by decide)) cl_X12_c306 rfl rfl rfl rfl (p := 4) rfl (fun _ => (zgo rfl (z_istore_n cd_X12_readsStatement_4 (j := 1) rfl rfl (p := 5) rfl (zgo rfl (z_aload_n cd_X12_readsStatement_5 (j := 0) rfl rfl (p := 6) rfl (zgo rfl (z_dup cd_X12_readsStatement_6 (p := 7) rfl (zgo rfl (z_getI cd_X12_readsStatement_7 fd_X12_92 (p := 10) rfl (fun _ => (zgo rfl (z_iconst cd_X12_readsStatement_10 ki_1 (p := 11) rfl (zgo rfl (z_iadd cd_X12_readsStatement_11 (p := 12) rfl (zgo rfl (z_putI cd_X12_readsStatement_12 fd_X12_92 (p := 15) rfl (fun _ => (zgo rfl (z_iload_n cd_X12_readsStatement_15 (j := 1) rfl rfl (p := 16) rfl (zgo rfl (z_lsw cd_X12_readsStatement_16 (p := 187) rfl (ps := [(99, 140), (100, 167), (101, 95), (115, 68), (119, 177)]) rfl (z_swc ki_99 (zgo rfl (z_aload_n cd_X12_readsStatement_140 (j := 0) rfl rfl (p := 141) rfl (zgo rfl (z_iconst cd_X12_readsStatement_141 ki_0 (p := 142) rfl (zgo rfl (z_iconst cd_X12_readsStatement_142 ki_1 (p := 143) rfl (zgo rfl (z_cv1 cd_X12_readsStatement_143 (zv (key := 318) (by decide)) cl_X12_c318 rfl rfl rfl rfl (p := 146) rfl (fun _ => (zgo rfl (z_if_eq cd_X12_readsStatement_146 (p := 162) rfl (p2 := 149) rfl (zcut (p := 162) rfl rfl) (zgo rfl (z_aload_n cd_X12_readsStatement_149 (j := 0) rfl rfl (p := 150) rfl (zgo rfl (z_iconst cd_X12_readsStatement_150 ki_1 (p := 151) rfl (zgo rfl (z_iconst cd_X12_readsStatement_151 ki_2 (p := 152) rfl (zgo rfl (z_cv1 cd_X12_readsStatement_152 (zv (key := 318) (by decide)) cl_X12_c318 rfl rfl rfl rfl (p := 155) rfl (fun _ => (zgo rfl (z_if_eq cd_X12_readsStatement_155 (p := 162) rfl (p2 := 158) rfl (zcut (p := 162) rfl rfl) (zgo rfl (z_iconst cd_X12_readsStatement_158 ki_1 (p := 159) rfl (zgo rfl (z_goto cd_X12_readsStatement_159 (p := 163) rfl (zgo rfl (z_istore_n cd_X12_readsStatement_163 (j := 2) rfl rfl (p := 164) rfl (zgo rfl (z_goto cd_X12_readsStatement_164 (p := 199) rfl (zcut (p := 199) rfl rfl))))))))))))))))))))))))))))))) (z_swc ki_100 (zgo rfl (z_aload_n cd_X12_readsStatement_167 (j := 0) rfl rfl (p := 168) rfl (zgo rfl (z_iconst cd_X12_readsStatement_168 ki_0 (p := 169) rfl (zgo rfl (z_iconst cd_X12_readsStatement_169 ki_1 (p := 170) rfl (zgo rfl (z_cv1 cd_X12_readsStatement_170 (zv (key := 318) (by decide)) cl_X12_c318 rfl rfl rfl rfl (p := 173) rfl (fun _ => (zgo rfl (z_istore_n cd_X12_readsStatement_173 (j := 2) rfl rfl (p := 174) rfl (zgo rfl (z_goto cd_X12_readsStatement_174 (p := 199) rfl (zcut (p := 199) rfl rfl)))))))))))))) (z_swc ki_101 (zgo rfl (z_aload_n cd_X12_readsStatement_95 (j := 0) rfl rfl (p := 96) rfl (zgo rfl (z_iconst cd_X12_readsStatement_96 ki_0 (p := 97) rfl (zgo rfl (z_iconst cd_X12_readsStatement_97 ki_1 (p := 98) rfl (zgo rfl (z_cv1 cd_X12_readsStatement_98 (zv (key := 318) (by decide)) cl_X12_c318 rfl rfl rfl rfl (p := 101) rfl (fun _ => (zgo rfl (z_if_eq cd_X12_readsStatement_101 (p := 135) rfl (p2 := 104) rfl (zcut (p := 135) rfl rfl) (zgo rfl (z_aload_n cd_X12_readsStatement_104 (j := 0) rfl rfl (p := 105) rfl (zgo rfl (z_iconst cd_X12_readsStatement_105 ki_1 (p := 106) rfl (zgo rfl (z_iconst cd_X12_readsStatement_106 ki_1 (p := 107) rfl (zgo rfl (z_cv1 cd_X12_readsStatement_107 (zv (key := 318) (by decide)) cl_X12_c318 rfl rfl rfl rfl (p := 110) rfl (fun _ => (zgo rfl (z_if_eq cd_X12_readsStatement_110 (p := 135) rfl (p2 := 113) rfl (zcut (p := 135) rfl rfl) (zgo rfl (z_aload_n cd_X12_readsStatement_113 (j := 0) rfl rfl (p := 114) rfl (zgo rfl (z_iconst cd_X12_readsStatement_114 ki_2 (p := 115) rfl (zgo rfl (z_iconst cd_X12_readsStatement_115 ki_2 (p := 116) rfl (zgo rfl (z_cv1 cd_X12_readsStatement_116 (zv (key := 318) (by decide)) cl_X12_c318 rfl rfl rfl rfl (p := 119) rfl (fun _ => (zgo rfl (z_if_eq cd_X12_readsStatement_119 (p := 135) rfl (p2 := 122) rfl (zcut (p := 135) rfl rfl) (zgo rfl (z_aload_n cd_X12_readsStatement_122 (j := 0) rfl rfl (p := 123) rfl (zgo rfl (z_iconst cd_X12_readsStatement_123 ki_3 (p := 124) rfl (zgo rfl (z_iconst cd_X12_readsStatement_124 ki_2 (p := 125) rfl (zgo rfl (z_cv1 cd_X12_readsStatement_125 (zv (key := 318) (by decide)) cl_X12_c318 rfl rfl rfl rfl (p := 128) rfl (fun _ => (zgo rfl (z_if_eq cd_X12_readsStatement_128 (p := 135) rfl (p2 := 131) rfl (zcut (p := 135) rfl rfl) (zgo rfl (z_iconst cd_X12_readsStatement_131 ki_1 (p := 132) rfl (zgo rfl (z_goto cd_X12_readsStatement_132 (p := 136) rfl (zgo rfl (z_istore_n cd_X12_readsStatement_136 (j := 2) rfl rfl (p := 137) rfl (zgo rfl (z_goto cd_X12_readsStatement_137 (p := 199) rfl (zcut (p := 199) rfl rfl))))))))))))))))))))))))))))))))))))))))))))))))))))) (z_swc ki_115 (zgo rfl (z_aload_n cd_X12_readsStatement_68 (j := 0) rfl rfl (p := 69) rfl (zgo rfl (z_iconst cd_X12_readsStatement_69 ki_0 (p := 70) rfl (zgo rfl (z_iconst cd_X12_readsStatement_70 ki_1 (p := 71) rfl (zgo rfl (z_cv1 cd_X12_readsStatement_71 (zv (key := 318) (by decide)) cl_X12_c318 rfl rfl rfl rfl (p := 74) rfl (fun _ => (zgo rfl (z_if_eq cd_X12_readsStatement_74 (p := 90) rfl (p2 := 77) rfl (zcut (p := 90) rfl rfl) (zgo rfl (z_aload_n cd_X12_readsStatement_77 (j := 0) rfl rfl (p := 78) rfl (zgo rfl (z_iconst cd_X12_readsStatement_78 ki_1 (p := 79) rfl (zgo rfl (z_iconst cd_X12_readsStatement_79 ki_1 (p := 80) rfl (zgo rfl (z_cv1 cd_X12_readsStatement_80 (zv (key := 318) (by decide)) cl_X12_c318 rfl rfl rfl rfl (p := 83) rfl (fun _ => (zgo rfl (z_if_eq cd_X12_readsStatement_83 (p := 90) rfl (p2 := 86) rfl (zcut (p := 90) rfl rfl) (zgo rfl (z_iconst cd_X12_readsStatement_86 ki_1 (p := 87) rfl (zgo rfl (z_goto cd_X12_readsStatement_87 (p := 91) rfl (zgo rfl (z_istore_n cd_X12_readsStatement_91 (j := 2) rfl rfl (p := 92) rfl (zgo rfl (z_goto cd_X12_readsStatement_92 (p := 199) rfl (zcut (p := 199) rfl rfl))))))))))))))))))))))))))))))) (z_swc ki_119 (zgo rfl (z_aload_n cd_X12_readsStatement_177 (j := 0) rfl rfl (p := 178) rfl (zgo rfl (z_iconst cd_X12_readsStatement_178 ki_0 (p := 179) rfl (zgo rfl (z_iconst cd_X12_readsStatement_179 ki_2 (p := 180) rfl (zgo rfl (z_cv1 cd_X12_readsStatement_180 (zv (key := 318) (by decide)) cl_X12_c318 rfl rfl rfl rfl (p := 183) rfl (fun _ => (zgo rfl (z_istore_n cd_X12_readsStatement_183 (j := 2) rfl rfl (p := 184) rfl (zgo rfl (z_goto cd_X12_readsStatement_184 (p := 199) rfl (zcut (p := 199) rfl rfl)))))))))))))) (z_swn (zgo rfl (z_aload_n cd_X12_readsStatement_187 (j := 0) rfl rfl (p := 188) rfl (zgo rfl (z_dup cd_X12_readsStatement_188 (p := 189) rfl (zgo rfl (z_getI cd_X12_readsStatement_189 fd_X12_92 (p := 192) rfl (fun _ => (zgo rfl (z_iconst cd_X12_readsStatement_192 ki_1 (p := 193) rfl (zgo rfl (z_isub cd_X12_readsStatement_193 (p := 194) rfl (zgo rfl (z_putI cd_X12_readsStatement_194 fd_X12_92 (p := 197) rfl (fun _ => (zgo rfl (z_iconst cd_X12_readsStatement_197 ki_0 (p := 198) rfl (zgo rfl (z_zret cd_X12_readsStatement_198 rfl))))))))))))))))))))))))))))))))))))))))))))))))
theorem bk_X12_readsStatement_90 (C : yC) (A : yM) (v0 : Nat) : yb_X12_readsStatement C (90, [some (.ref v0), none, none], [], A) = yb_X12_readsStatement C (199, [some (.ref v0), none, some (.int (0 : Int32))], [], A) := (ybig_blk 4 _).trans (z_iconst cd_X12_readsStatement_90 ki_0 (p := 91) rfl (zgo rfl (z_istore_n cd_X12_readsStatement_91 (j := 2) rfl rfl (p := 92) rfl (zgo rfl (z_goto cd_X12_readsStatement_92 (p := 199) rfl (zcut (p := 199) rfl rfl))))))
theorem bk_X12_readsStatement_135 (C : yC) (A : yM) (v0 : Nat) : yb_X12_readsStatement C (135, [some (.ref v0), none, none], [], A) = yb_X12_readsStatement C (199, [some (.ref v0), none, some (.int (0 : Int32))], [], A) := (ybig_blk 4 _).trans (z_iconst cd_X12_readsStatement_135 ki_0 (p := 136) rfl (zgo rfl (z_istore_n cd_X12_readsStatement_136 (j := 2) rfl rfl (p := 137) rfl (zgo rfl (z_goto cd_X12_readsStatement_137 (p := 199) rfl (zcut (p := 199) rfl rfl))))))
theorem bk_X12_readsStatement_162 (C : yC) (A : yM) (v0 : Nat) : yb_X12_readsStatement C (162, [some (.ref v0), none, none], [], A) = yb_X12_readsStatement C (199, [some (.ref v0), none, some (.int (0 : Int32))], [], A) := (ybig_blk 4 _).trans (z_iconst cd_X12_readsStatement_162 ki_0 (p := 163) rfl (zgo rfl (z_istore_n cd_X12_readsStatement_163 (j := 2) rfl rfl (p := 164) rfl (zgo rfl (z_goto cd_X12_readsStatement_164 (p := 199) rfl (zcut (p := 199) rfl rfl))))))
theorem bk_X12_readsStatement_199 (C : yC) (A : yM) (v0 : Nat) (v2 : Int32) : yb_X12_readsStatement C (199, [some (.ref v0), none, some (.int v2)], [], A) = if v2 = 0 then (if (0 : Int32) = 0 ∨ (0 : Int32) = 1 then some (some (.int (0 : Int32)), A) else none) else ((yi (yvt [(11, 163)] C [.ref v0] A)).bind (fun z1 => if z1.1 = (59 : Int32) then (ygI z1.2 v0 11 5 (fun x2 => ypI z1.2 v0 11 5 (x2 + (1 : Int32)) (fun A3 => if (1 : Int32) = 0 ∨ (1 : Int32) = 1 then some (some (.int (1 : Int32)), A3) else none))) else (if (0 : Int32) = 0 ∨ (0 : Int32) = 1 then some (some (.int (0 : Int32)), z1.2) else none))) := (ybig_blk 15 _).trans (z_iload_n cd_X12_readsStatement_199 (j := 2) rfl rfl (p := 200) rfl (zgo rfl (z_if_eq cd_X12_readsStatement_200 (p := 212) rfl (p2 := 203) rfl (zgo rfl (z_iconst cd_X12_readsStatement_212 ki_0 (p := 213) rfl (zgo rfl (z_zret cd_X12_readsStatement_213 rfl)))) (zgo rfl (z_aload_n cd_X12_readsStatement_203 (j := 0) rfl rfl (p := 204) rfl (zgo rfl (z_cv1 cd_X12_readsStatement_204 (zv (key := 306) (by decide)) cl_X12_c306 rfl rfl rfl rfl (p := 207) rfl (fun _ => (zgo rfl (z_bipush cd_X12_readsStatement_207 kb_59 (p := 209) rfl (zgo rfl (z_ic_eq cd_X12_readsStatement_209 (p := 214) rfl (p2 := 212) rfl (zgo rfl (z_aload_n cd_X12_readsStatement_214 (j := 0) rfl rfl (p := 215) rfl (zgo rfl (z_dup cd_X12_readsStatement_215 (p := 216) rfl (zgo rfl (z_getI cd_X12_readsStatement_216 fd_X12_92 (p := 219) rfl (fun _ => (zgo rfl (z_iconst cd_X12_readsStatement_219 ki_1 (p := 220) rfl (zgo rfl (z_iadd cd_X12_readsStatement_220 (p := 221) rfl (zgo rfl (z_putI cd_X12_readsStatement_221 fd_X12_92 (p := 224) rfl (fun _ => (zgo rfl (z_iconst cd_X12_readsStatement_224 ki_1 (p := 225) rfl (zgo rfl (z_zret cd_X12_readsStatement_225 rfl)))))))))))))))))) (zgo rfl (z_iconst cd_X12_readsStatement_212 ki_0 (p := 213) rfl (zgo rfl (z_zret cd_X12_readsStatement_213 rfl))))))))))))))))
theorem cd_X12_addsStudent_0 : ylk m_X12_addsStudent.2.2.2.2.1 0 = some (.aload_n 0) := by decide +kernel
theorem cd_X12_addsStudent_1 : ylk m_X12_addsStudent.2.2.2.2.1 1 = some (.getfield 9) := by decide +kernel
theorem cd_X12_addsStudent_4 : ylk m_X12_addsStudent.2.2.2.2.1 4 = some (.aload_n 0) := by decide +kernel
theorem cd_X12_addsStudent_5 : ylk m_X12_addsStudent.2.2.2.2.1 5 = some (.getfield 9) := by decide +kernel
theorem cd_X12_addsStudent_8 : ylk m_X12_addsStudent.2.2.2.2.1 8 = some (.iconst 0) := by decide +kernel
theorem cd_X12_addsStudent_9 : ylk m_X12_addsStudent.2.2.2.2.1 9 = some (.iaload) := by decide +kernel
theorem cd_X12_addsStudent_10 : ylk m_X12_addsStudent.2.2.2.2.1 10 = some (.iconst 0) := by decide +kernel
theorem cd_X12_addsStudent_11 : ylk m_X12_addsStudent.2.2.2.2.1 11 = some (.invokestatic 50) := by decide +kernel
theorem cd_X12_addsStudent_14 : ylk m_X12_addsStudent.2.2.2.2.1 14 = some (.iload_n 1) := by decide +kernel
theorem cd_X12_addsStudent_15 : ylk m_X12_addsStudent.2.2.2.2.1 15 = some (.iastore) := by decide +kernel
theorem cd_X12_addsStudent_16 : ylk m_X12_addsStudent.2.2.2.2.1 16 = some (.aload_n 0) := by decide +kernel
theorem cd_X12_addsStudent_17 : ylk m_X12_addsStudent.2.2.2.2.1 17 = some (.getfield 9) := by decide +kernel
theorem cd_X12_addsStudent_20 : ylk m_X12_addsStudent.2.2.2.2.1 20 = some (.aload_n 0) := by decide +kernel
theorem cd_X12_addsStudent_21 : ylk m_X12_addsStudent.2.2.2.2.1 21 = some (.getfield 9) := by decide +kernel
theorem cd_X12_addsStudent_24 : ylk m_X12_addsStudent.2.2.2.2.1 24 = some (.iconst 0) := by decide +kernel
theorem cd_X12_addsStudent_25 : ylk m_X12_addsStudent.2.2.2.2.1 25 = some (.iaload) := by decide +kernel
theorem cd_X12_addsStudent_26 : ylk m_X12_addsStudent.2.2.2.2.1 26 = some (.iconst 1) := by decide +kernel
theorem cd_X12_addsStudent_27 : ylk m_X12_addsStudent.2.2.2.2.1 27 = some (.invokestatic 50) := by decide +kernel
theorem cd_X12_addsStudent_30 : ylk m_X12_addsStudent.2.2.2.2.1 30 = some (.iload_n 2) := by decide +kernel
theorem cd_X12_addsStudent_31 : ylk m_X12_addsStudent.2.2.2.2.1 31 = some (.iastore) := by decide +kernel
theorem cd_X12_addsStudent_32 : ylk m_X12_addsStudent.2.2.2.2.1 32 = some (.aload_n 0) := by decide +kernel
theorem cd_X12_addsStudent_33 : ylk m_X12_addsStudent.2.2.2.2.1 33 = some (.getfield 9) := by decide +kernel
theorem cd_X12_addsStudent_36 : ylk m_X12_addsStudent.2.2.2.2.1 36 = some (.aload_n 0) := by decide +kernel
theorem cd_X12_addsStudent_37 : ylk m_X12_addsStudent.2.2.2.2.1 37 = some (.getfield 9) := by decide +kernel
theorem cd_X12_addsStudent_40 : ylk m_X12_addsStudent.2.2.2.2.1 40 = some (.iconst 0) := by decide +kernel
theorem cd_X12_addsStudent_41 : ylk m_X12_addsStudent.2.2.2.2.1 41 = some (.iaload) := by decide +kernel
theorem cd_X12_addsStudent_42 : ylk m_X12_addsStudent.2.2.2.2.1 42 = some (.iconst 2) := by decide +kernel
theorem cd_X12_addsStudent_43 : ylk m_X12_addsStudent.2.2.2.2.1 43 = some (.invokestatic 50) := by decide +kernel
theorem cd_X12_addsStudent_46 : ylk m_X12_addsStudent.2.2.2.2.1 46 = some (.iconst 1) := by decide +kernel
theorem cd_X12_addsStudent_47 : ylk m_X12_addsStudent.2.2.2.2.1 47 = some (.iastore) := by decide +kernel
theorem cd_X12_addsStudent_48 : ylk m_X12_addsStudent.2.2.2.2.1 48 = some (.aload_n 0) := by decide +kernel
theorem cd_X12_addsStudent_49 : ylk m_X12_addsStudent.2.2.2.2.1 49 = some (.getfield 9) := by decide +kernel
theorem cd_X12_addsStudent_52 : ylk m_X12_addsStudent.2.2.2.2.1 52 = some (.iconst 0) := by decide +kernel
theorem cd_X12_addsStudent_53 : ylk m_X12_addsStudent.2.2.2.2.1 53 = some (.dup2) := by decide +kernel
theorem cd_X12_addsStudent_54 : ylk m_X12_addsStudent.2.2.2.2.1 54 = some (.iaload) := by decide +kernel
theorem cd_X12_addsStudent_55 : ylk m_X12_addsStudent.2.2.2.2.1 55 = some (.iconst 1) := by decide +kernel
theorem cd_X12_addsStudent_56 : ylk m_X12_addsStudent.2.2.2.2.1 56 = some (.iadd) := by decide +kernel
theorem cd_X12_addsStudent_57 : ylk m_X12_addsStudent.2.2.2.2.1 57 = some (.iastore) := by decide +kernel
theorem cd_X12_addsStudent_58 : ylk m_X12_addsStudent.2.2.2.2.1 58 = some (.return_) := by decide +kernel
noncomputable abbrev yb_X12_addsStudent (C : yC) : ySt → Option (Option Value × yM) := yrn m_X12_addsStudent C
theorem en_X12_addsStudent (n : Nat) (A : yM) (v0 : Nat) (v1 : Int32) (v2 : Int32) : ycall (n + 1) 166 [.ref v0, .int v1, .int v2] A = ygR A v0 11 0 (fun a1 => ygR A v0 11 0 (fun a2 => yrd A a2 (0 : Int32) (fun x3 => (yi ((ycall n) 142 [.int x3, .int (0 : Int32)] A)).bind (fun z4 => ywr z4.2 a1 z4.1 v1 (fun A5 => ygR A5 v0 11 0 (fun a6 => ygR A5 v0 11 0 (fun a7 => yrd A5 a7 (0 : Int32) (fun x8 => (yi ((ycall n) 142 [.int x8, .int (1 : Int32)] A5)).bind (fun z9 => ywr z9.2 a6 z9.1 v2 (fun A10 => ygR A10 v0 11 0 (fun a11 => ygR A10 v0 11 0 (fun a12 => yrd A10 a12 (0 : Int32) (fun x13 => (yi ((ycall n) 142 [.int x13, .int (2 : Int32)] A10)).bind (fun z14 => ywr z14.2 a11 z14.1 (1 : Int32) (fun A15 => ygR A15 v0 11 0 (fun a16 => yrd A15 a16 (0 : Int32) (fun x17 => ywr A15 a16 (0 : Int32) (x17 + (1 : Int32)) (fun A18 => some (none, A18))))))))))))))))))) := (ybig_blk 40 _).trans (z_aload_n cd_X12_addsStudent_0 (j := 0) rfl rfl (p := 1) rfl (zgo rfl (z_getR cd_X12_addsStudent_1 fd_X12_9 (p := 4) rfl (fun _ => (zgo rfl (z_aload_n cd_X12_addsStudent_4 (j := 0) rfl rfl (p := 5) rfl (zgo rfl (z_getR cd_X12_addsStudent_5 fd_X12_9 (p := 8) rfl (fun _ => (zgo rfl (z_iconst cd_X12_addsStudent_8 ki_0 (p := 9) rfl (zgo rfl (z_iaload cd_X12_addsStudent_9 (p := 10) rfl (fun _ => (zgo rfl (z_iconst cd_X12_addsStudent_10 ki_0 (p := 11) rfl (zgo rfl (z_cs1 cd_X12_addsStudent_11 (zs (key := 151) (by decide)) cl_X12_c151 rfl rfl rfl rfl (p := 14) rfl (fun _ => (zgo rfl (z_iload_n cd_X12_addsStudent_14 (j := 1) rfl rfl (p := 15) rfl (zgo rfl (z_iastore cd_X12_addsStudent_15 (p := 16) rfl (fun _ => (zgo rfl (z_aload_n cd_X12_addsStudent_16 (j := 0) rfl rfl (p := 17) rfl (zgo rfl (z_getR cd_X12_addsStudent_17 fd_X12_9 (p := 20) rfl (fun _ => (zgo rfl (z_aload_n cd_X12_addsStudent_20 (j := 0) rfl rfl (p := 21) rfl (zgo rfl (z_getR cd_X12_addsStudent_21 fd_X12_9 (p := 24) rfl (fun _ => (zgo rfl (z_iconst cd_X12_addsStudent_24 ki_0 (p := 25) rfl (zgo rfl (z_iaload cd_X12_addsStudent_25 (p := 26) rfl (fun _ => (zgo rfl (z_iconst cd_X12_addsStudent_26 ki_1 (p := 27) rfl (zgo rfl (z_cs1 cd_X12_addsStudent_27 (zs (key := 151) (by decide)) cl_X12_c151 rfl rfl rfl rfl (p := 30) rfl (fun _ => (zgo rfl (z_iload_n cd_X12_addsStudent_30 (j := 2) rfl rfl (p := 31) rfl (zgo rfl (z_iastore cd_X12_addsStudent_31 (p := 32) rfl (fun _ => (zgo rfl (z_aload_n cd_X12_addsStudent_32 (j := 0) rfl rfl (p := 33) rfl (zgo rfl (z_getR cd_X12_addsStudent_33 fd_X12_9 (p := 36) rfl (fun _ => (zgo rfl (z_aload_n cd_X12_addsStudent_36 (j := 0) rfl rfl (p := 37) rfl (zgo rfl (z_getR cd_X12_addsStudent_37 fd_X12_9 (p := 40) rfl (fun _ => (zgo rfl (z_iconst cd_X12_addsStudent_40 ki_0 (p := 41) rfl (zgo rfl (z_iaload cd_X12_addsStudent_41 (p := 42) rfl (fun _ => (zgo rfl (z_iconst cd_X12_addsStudent_42 ki_2 (p := 43) rfl (zgo rfl (z_cs1 cd_X12_addsStudent_43 (zs (key := 151) (by decide)) cl_X12_c151 rfl rfl rfl rfl (p := 46) rfl (fun _ => (zgo rfl (z_iconst cd_X12_addsStudent_46 ki_1 (p := 47) rfl (zgo rfl (z_iastore cd_X12_addsStudent_47 (p := 48) rfl (fun _ => (zgo rfl (z_aload_n cd_X12_addsStudent_48 (j := 0) rfl rfl (p := 49) rfl (zgo rfl (z_getR cd_X12_addsStudent_49 fd_X12_9 (p := 52) rfl (fun _ => (zgo rfl (z_iconst cd_X12_addsStudent_52 ki_0 (p := 53) rfl (zgo rfl (z_dup2 cd_X12_addsStudent_53 (p := 54) rfl (zgo rfl (z_iaload cd_X12_addsStudent_54 (p := 55) rfl (fun _ => (zgo rfl (z_iconst cd_X12_addsStudent_55 ki_1 (p := 56) rfl (zgo rfl (z_iadd cd_X12_addsStudent_56 (p := 57) rfl (zgo rfl (z_iastore cd_X12_addsStudent_57 (p := 58) rfl (fun _ => (zgo rfl (z_ret cd_X12_addsStudent_58 rfl)))))))))))))))))))))))))))))))))))))))))))))))))))))))))))))))))))))))))))))))))))))))))))))))
theorem cd_X12_isDone_0 : ylk m_X12_isDone.2.2.2.2.1 0 = some (.aload_n 0) := by decide +kernel
theorem cd_X12_isDone_1 : ylk m_X12_isDone.2.2.2.2.1 1 = some (.getfield 22) := by decide +kernel
theorem cd_X12_isDone_4 : ylk m_X12_isDone.2.2.2.2.1 4 = some (.iconst 0) := by decide +kernel
theorem cd_X12_isDone_5 : ylk m_X12_isDone.2.2.2.2.1 5 = some (.iaload) := by decide +kernel
theorem cd_X12_isDone_6 : ylk m_X12_isDone.2.2.2.2.1 6 = some (.istore_n 2) := by decide +kernel
theorem cd_X12_isDone_7 : ylk m_X12_isDone.2.2.2.2.1 7 = some (.aload_n 0) := by decide +kernel
theorem cd_X12_isDone_8 : ylk m_X12_isDone.2.2.2.2.1 8 = some (.getfield 22) := by decide +kernel
theorem cd_X12_isDone_11 : ylk m_X12_isDone.2.2.2.2.1 11 = some (.iconst 1) := by decide +kernel
theorem cd_X12_isDone_12 : ylk m_X12_isDone.2.2.2.2.1 12 = some (.iaload) := by decide +kernel
theorem cd_X12_isDone_13 : ylk m_X12_isDone.2.2.2.2.1 13 = some (.istore_n 3) := by decide +kernel
theorem cd_X12_isDone_14 : ylk m_X12_isDone.2.2.2.2.1 14 = some (.iload_n 1) := by decide +kernel
theorem cd_X12_isDone_15 : ylk m_X12_isDone.2.2.2.2.1 15 = some (.lookupswitch 217 #[(99, 153), (100, 191), (101, 68), (115, 41)]) := by decide +kernel
theorem cd_X12_isDone_56 : ylk m_X12_isDone.2.2.2.2.1 56 = some (.iload_n 2) := by decide +kernel
theorem cd_X12_isDone_57 : ylk m_X12_isDone.2.2.2.2.1 57 = some (.bipush 8) := by decide +kernel
theorem cd_X12_isDone_59 : ylk m_X12_isDone.2.2.2.2.1 59 = some (.if_icmp .ge 14) := by decide +kernel
theorem cd_X12_isDone_62 : ylk m_X12_isDone.2.2.2.2.1 62 = some (.aload_n 0) := by decide +kernel
theorem cd_X12_isDone_63 : ylk m_X12_isDone.2.2.2.2.1 63 = some (.getfield 9) := by decide +kernel
theorem cd_X12_isDone_66 : ylk m_X12_isDone.2.2.2.2.1 66 = some (.iconst 0) := by decide +kernel
theorem cd_X12_isDone_67 : ylk m_X12_isDone.2.2.2.2.1 67 = some (.iaload) := by decide +kernel
theorem cd_X12_isDone_68 : ylk m_X12_isDone.2.2.2.2.1 68 = some (.bipush 6) := by decide +kernel
theorem cd_X12_isDone_70 : ylk m_X12_isDone.2.2.2.2.1 70 = some (.if_icmp .ne 5) := by decide +kernel
theorem cd_X12_isDone_73 : ylk m_X12_isDone.2.2.2.2.1 73 = some (.iconst 0) := by decide +kernel
theorem cd_X12_isDone_74 : ylk m_X12_isDone.2.2.2.2.1 74 = some (.ireturn) := by decide +kernel
theorem cd_X12_isDone_75 : ylk m_X12_isDone.2.2.2.2.1 75 = some (.aload_n 0) := by decide +kernel
theorem cd_X12_isDone_76 : ylk m_X12_isDone.2.2.2.2.1 76 = some (.iload_n 2) := by decide +kernel
theorem cd_X12_isDone_77 : ylk m_X12_isDone.2.2.2.2.1 77 = some (.iload_n 3) := by decide +kernel
theorem cd_X12_isDone_78 : ylk m_X12_isDone.2.2.2.2.1 78 = some (.invokevirtual 110) := by decide +kernel
theorem cd_X12_isDone_81 : ylk m_X12_isDone.2.2.2.2.1 81 = some (.iconst 1) := by decide +kernel
theorem cd_X12_isDone_82 : ylk m_X12_isDone.2.2.2.2.1 82 = some (.ireturn) := by decide +kernel
theorem cd_X12_isDone_83 : ylk m_X12_isDone.2.2.2.2.1 83 = some (.aload_n 0) := by decide +kernel
theorem cd_X12_isDone_84 : ylk m_X12_isDone.2.2.2.2.1 84 = some (.iload_n 2) := by decide +kernel
theorem cd_X12_isDone_85 : ylk m_X12_isDone.2.2.2.2.1 85 = some (.invokevirtual 114) := by decide +kernel
theorem cd_X12_isDone_88 : ylk m_X12_isDone.2.2.2.2.1 88 = some (.ifCond .eq 55) := by decide +kernel
theorem cd_X12_isDone_91 : ylk m_X12_isDone.2.2.2.2.1 91 = some (.iload_n 3) := by decide +kernel
theorem cd_X12_isDone_92 : ylk m_X12_isDone.2.2.2.2.1 92 = some (.bipush 6) := by decide +kernel
theorem cd_X12_isDone_94 : ylk m_X12_isDone.2.2.2.2.1 94 = some (.if_icmp .ge 49) := by decide +kernel
theorem cd_X12_isDone_97 : ylk m_X12_isDone.2.2.2.2.1 97 = some (.aload_n 0) := by decide +kernel
theorem cd_X12_isDone_98 : ylk m_X12_isDone.2.2.2.2.1 98 = some (.getfield 22) := by decide +kernel
theorem cd_X12_isDone_101 : ylk m_X12_isDone.2.2.2.2.1 101 = some (.iconst 3) := by decide +kernel
theorem cd_X12_isDone_102 : ylk m_X12_isDone.2.2.2.2.1 102 = some (.iaload) := by decide +kernel
theorem cd_X12_isDone_103 : ylk m_X12_isDone.2.2.2.2.1 103 = some (.bipush 99) := by decide +kernel
theorem cd_X12_isDone_105 : ylk m_X12_isDone.2.2.2.2.1 105 = some (.if_icmp .eq 16) := by decide +kernel
theorem cd_X12_isDone_108 : ylk m_X12_isDone.2.2.2.2.1 108 = some (.aload_n 0) := by decide +kernel
theorem cd_X12_isDone_109 : ylk m_X12_isDone.2.2.2.2.1 109 = some (.aload_n 0) := by decide +kernel
theorem cd_X12_isDone_110 : ylk m_X12_isDone.2.2.2.2.1 110 = some (.getfield 22) := by decide +kernel
theorem cd_X12_isDone_113 : ylk m_X12_isDone.2.2.2.2.1 113 = some (.iconst 3) := by decide +kernel
theorem cd_X12_isDone_114 : ylk m_X12_isDone.2.2.2.2.1 114 = some (.iaload) := by decide +kernel
theorem cd_X12_isDone_115 : ylk m_X12_isDone.2.2.2.2.1 115 = some (.invokevirtual 118) := by decide +kernel
theorem cd_X12_isDone_118 : ylk m_X12_isDone.2.2.2.2.1 118 = some (.ifCond .eq 25) := by decide +kernel
theorem cd_X12_isDone_121 : ylk m_X12_isDone.2.2.2.2.1 121 = some (.aload_n 0) := by decide +kernel
theorem cd_X12_isDone_122 : ylk m_X12_isDone.2.2.2.2.1 122 = some (.getfield 9) := by decide +kernel
theorem cd_X12_isDone_125 : ylk m_X12_isDone.2.2.2.2.1 125 = some (.iload_n 2) := by decide +kernel
theorem cd_X12_isDone_126 : ylk m_X12_isDone.2.2.2.2.1 126 = some (.invokestatic 80) := by decide +kernel
theorem cd_X12_isDone_129 : ylk m_X12_isDone.2.2.2.2.1 129 = some (.ifCond .eq 14) := by decide +kernel
theorem cd_X12_isDone_132 : ylk m_X12_isDone.2.2.2.2.1 132 = some (.aload_n 0) := by decide +kernel
theorem cd_X12_isDone_133 : ylk m_X12_isDone.2.2.2.2.1 133 = some (.getfield 9) := by decide +kernel
theorem cd_X12_isDone_136 : ylk m_X12_isDone.2.2.2.2.1 136 = some (.iconst 1) := by decide +kernel
theorem cd_X12_isDone_137 : ylk m_X12_isDone.2.2.2.2.1 137 = some (.iaload) := by decide +kernel
theorem cd_X12_isDone_138 : ylk m_X12_isDone.2.2.2.2.1 138 = some (.bipush 12) := by decide +kernel
theorem cd_X12_isDone_140 : ylk m_X12_isDone.2.2.2.2.1 140 = some (.if_icmp .ne 5) := by decide +kernel
theorem cd_X12_isDone_143 : ylk m_X12_isDone.2.2.2.2.1 143 = some (.iconst 0) := by decide +kernel
theorem cd_X12_isDone_144 : ylk m_X12_isDone.2.2.2.2.1 144 = some (.ireturn) := by decide +kernel
theorem cd_X12_isDone_145 : ylk m_X12_isDone.2.2.2.2.1 145 = some (.aload_n 0) := by decide +kernel
theorem cd_X12_isDone_146 : ylk m_X12_isDone.2.2.2.2.1 146 = some (.getfield 9) := by decide +kernel
theorem cd_X12_isDone_149 : ylk m_X12_isDone.2.2.2.2.1 149 = some (.iload_n 2) := by decide +kernel
theorem cd_X12_isDone_150 : ylk m_X12_isDone.2.2.2.2.1 150 = some (.iload_n 3) := by decide +kernel
theorem cd_X12_isDone_151 : ylk m_X12_isDone.2.2.2.2.1 151 = some (.aload_n 0) := by decide +kernel
theorem cd_X12_isDone_152 : ylk m_X12_isDone.2.2.2.2.1 152 = some (.getfield 22) := by decide +kernel
theorem cd_X12_isDone_155 : ylk m_X12_isDone.2.2.2.2.1 155 = some (.iconst 2) := by decide +kernel
theorem cd_X12_isDone_156 : ylk m_X12_isDone.2.2.2.2.1 156 = some (.iaload) := by decide +kernel
theorem cd_X12_isDone_157 : ylk m_X12_isDone.2.2.2.2.1 157 = some (.aload_n 0) := by decide +kernel
theorem cd_X12_isDone_158 : ylk m_X12_isDone.2.2.2.2.1 158 = some (.getfield 22) := by decide +kernel
theorem cd_X12_isDone_161 : ylk m_X12_isDone.2.2.2.2.1 161 = some (.iconst 3) := by decide +kernel
theorem cd_X12_isDone_162 : ylk m_X12_isDone.2.2.2.2.1 162 = some (.iaload) := by decide +kernel
theorem cd_X12_isDone_163 : ylk m_X12_isDone.2.2.2.2.1 163 = some (.invokestatic 121) := by decide +kernel
theorem cd_X12_isDone_166 : ylk m_X12_isDone.2.2.2.2.1 166 = some (.iconst 1) := by decide +kernel
theorem cd_X12_isDone_167 : ylk m_X12_isDone.2.2.2.2.1 167 = some (.ireturn) := by decide +kernel
theorem cd_X12_isDone_168 : ylk m_X12_isDone.2.2.2.2.1 168 = some (.aload_n 0) := by decide +kernel
theorem cd_X12_isDone_169 : ylk m_X12_isDone.2.2.2.2.1 169 = some (.iload_n 2) := by decide +kernel
theorem cd_X12_isDone_170 : ylk m_X12_isDone.2.2.2.2.1 170 = some (.invokevirtual 114) := by decide +kernel
theorem cd_X12_isDone_173 : ylk m_X12_isDone.2.2.2.2.1 173 = some (.ifCond .eq 20) := by decide +kernel
theorem cd_X12_isDone_176 : ylk m_X12_isDone.2.2.2.2.1 176 = some (.aload_n 0) := by decide +kernel
theorem cd_X12_isDone_177 : ylk m_X12_isDone.2.2.2.2.1 177 = some (.iload_n 3) := by decide +kernel
theorem cd_X12_isDone_178 : ylk m_X12_isDone.2.2.2.2.1 178 = some (.invokevirtual 118) := by decide +kernel
theorem cd_X12_isDone_181 : ylk m_X12_isDone.2.2.2.2.1 181 = some (.ifCond .eq 12) := by decide +kernel
theorem cd_X12_isDone_184 : ylk m_X12_isDone.2.2.2.2.1 184 = some (.aload_n 0) := by decide +kernel
theorem cd_X12_isDone_185 : ylk m_X12_isDone.2.2.2.2.1 185 = some (.iload_n 2) := by decide +kernel
theorem cd_X12_isDone_186 : ylk m_X12_isDone.2.2.2.2.1 186 = some (.iload_n 3) := by decide +kernel
theorem cd_X12_isDone_187 : ylk m_X12_isDone.2.2.2.2.1 187 = some (.invokevirtual 125) := by decide +kernel
theorem cd_X12_isDone_190 : ylk m_X12_isDone.2.2.2.2.1 190 = some (.ifCond .ne 5) := by decide +kernel
theorem cd_X12_isDone_193 : ylk m_X12_isDone.2.2.2.2.1 193 = some (.iconst 0) := by decide +kernel
theorem cd_X12_isDone_194 : ylk m_X12_isDone.2.2.2.2.1 194 = some (.ireturn) := by decide +kernel
theorem cd_X12_isDone_195 : ylk m_X12_isDone.2.2.2.2.1 195 = some (.aload_n 0) := by decide +kernel
theorem cd_X12_isDone_196 : ylk m_X12_isDone.2.2.2.2.1 196 = some (.getfield 9) := by decide +kernel
theorem cd_X12_isDone_199 : ylk m_X12_isDone.2.2.2.2.1 199 = some (.iload_n 2) := by decide +kernel
theorem cd_X12_isDone_200 : ylk m_X12_isDone.2.2.2.2.1 200 = some (.iload_n 3) := by decide +kernel
theorem cd_X12_isDone_201 : ylk m_X12_isDone.2.2.2.2.1 201 = some (.invokestatic 128) := by decide +kernel
theorem cd_X12_isDone_204 : ylk m_X12_isDone.2.2.2.2.1 204 = some (.iconst 1) := by decide +kernel
theorem cd_X12_isDone_205 : ylk m_X12_isDone.2.2.2.2.1 205 = some (.ireturn) := by decide +kernel
theorem cd_X12_isDone_206 : ylk m_X12_isDone.2.2.2.2.1 206 = some (.aload_n 0) := by decide +kernel
theorem cd_X12_isDone_207 : ylk m_X12_isDone.2.2.2.2.1 207 = some (.iload_n 2) := by decide +kernel
theorem cd_X12_isDone_208 : ylk m_X12_isDone.2.2.2.2.1 208 = some (.invokevirtual 114) := by decide +kernel
theorem cd_X12_isDone_211 : ylk m_X12_isDone.2.2.2.2.1 211 = some (.ifCond .ne 5) := by decide +kernel
theorem cd_X12_isDone_214 : ylk m_X12_isDone.2.2.2.2.1 214 = some (.iconst 0) := by decide +kernel
theorem cd_X12_isDone_215 : ylk m_X12_isDone.2.2.2.2.1 215 = some (.ireturn) := by decide +kernel
theorem cd_X12_isDone_216 : ylk m_X12_isDone.2.2.2.2.1 216 = some (.aload_n 0) := by decide +kernel
theorem cd_X12_isDone_217 : ylk m_X12_isDone.2.2.2.2.1 217 = some (.getfield 9) := by decide +kernel
theorem cd_X12_isDone_220 : ylk m_X12_isDone.2.2.2.2.1 220 = some (.iload_n 2) := by decide +kernel
theorem cd_X12_isDone_221 : ylk m_X12_isDone.2.2.2.2.1 221 = some (.iconst 2) := by decide +kernel
theorem cd_X12_isDone_222 : ylk m_X12_isDone.2.2.2.2.1 222 = some (.invokestatic 50) := by decide +kernel
theorem cd_X12_isDone_225 : ylk m_X12_isDone.2.2.2.2.1 225 = some (.dup2) := by decide +kernel
theorem cd_X12_isDone_226 : ylk m_X12_isDone.2.2.2.2.1 226 = some (.iaload) := by decide +kernel
theorem cd_X12_isDone_227 : ylk m_X12_isDone.2.2.2.2.1 227 = some (.iconst 1) := by decide +kernel
theorem cd_X12_isDone_228 : ylk m_X12_isDone.2.2.2.2.1 228 = some (.ixor) := by decide +kernel
theorem cd_X12_isDone_229 : ylk m_X12_isDone.2.2.2.2.1 229 = some (.iastore) := by decide +kernel
theorem cd_X12_isDone_230 : ylk m_X12_isDone.2.2.2.2.1 230 = some (.iconst 1) := by decide +kernel
theorem cd_X12_isDone_231 : ylk m_X12_isDone.2.2.2.2.1 231 = some (.ireturn) := by decide +kernel
theorem cd_X12_isDone_232 : ylk m_X12_isDone.2.2.2.2.1 232 = some (.iload_n 2) := by decide +kernel
theorem cd_X12_isDone_233 : ylk m_X12_isDone.2.2.2.2.1 233 = some (.iconst 1) := by decide +kernel
theorem cd_X12_isDone_234 : ylk m_X12_isDone.2.2.2.2.1 234 = some (.bipush 60) := by decide +kernel
theorem cd_X12_isDone_236 : ylk m_X12_isDone.2.2.2.2.1 236 = some (.invokestatic 46) := by decide +kernel
theorem cd_X12_isDone_239 : ylk m_X12_isDone.2.2.2.2.1 239 = some (.ifCond .eq 17) := by decide +kernel
theorem cd_X12_isDone_242 : ylk m_X12_isDone.2.2.2.2.1 242 = some (.aload_n 0) := by decide +kernel
theorem cd_X12_isDone_243 : ylk m_X12_isDone.2.2.2.2.1 243 = some (.getfield 9) := by decide +kernel
theorem cd_X12_isDone_246 : ylk m_X12_isDone.2.2.2.2.1 246 = some (.iconst 2) := by decide +kernel
theorem cd_X12_isDone_247 : ylk m_X12_isDone.2.2.2.2.1 247 = some (.iaload) := by decide +kernel
theorem cd_X12_isDone_248 : ylk m_X12_isDone.2.2.2.2.1 248 = some (.iload_n 2) := by decide +kernel
theorem cd_X12_isDone_249 : ylk m_X12_isDone.2.2.2.2.1 249 = some (.iadd) := by decide +kernel
theorem cd_X12_isDone_250 : ylk m_X12_isDone.2.2.2.2.1 250 = some (.sipush 999) := by decide +kernel
theorem cd_X12_isDone_253 : ylk m_X12_isDone.2.2.2.2.1 253 = some (.if_icmp .le 5) := by decide +kernel
theorem cd_X12_isDone_256 : ylk m_X12_isDone.2.2.2.2.1 256 = some (.iconst 0) := by decide +kernel
theorem cd_X12_isDone_257 : ylk m_X12_isDone.2.2.2.2.1 257 = some (.ireturn) := by decide +kernel
theorem cd_X12_isDone_258 : ylk m_X12_isDone.2.2.2.2.1 258 = some (.aload_n 0) := by decide +kernel
theorem cd_X12_isDone_259 : ylk m_X12_isDone.2.2.2.2.1 259 = some (.getfield 9) := by decide +kernel
theorem cd_X12_isDone_262 : ylk m_X12_isDone.2.2.2.2.1 262 = some (.iload_n 2) := by decide +kernel
theorem cd_X12_isDone_263 : ylk m_X12_isDone.2.2.2.2.1 263 = some (.invokestatic 132) := by decide +kernel
theorem cd_X12_isDone_266 : ylk m_X12_isDone.2.2.2.2.1 266 = some (.iconst 1) := by decide +kernel
theorem cd_X12_isDone_267 : ylk m_X12_isDone.2.2.2.2.1 267 = some (.ireturn) := by decide +kernel
noncomputable abbrev yb_X12_isDone (C : yC) : ySt → Option (Option Value × yM) := yrn m_X12_isDone C
theorem en_X12_isDone (n : Nat) (A : yM) (v0 : Nat) (v1 : Int32) : ycall (n + 1) 167 [.ref v0, .int v1] A = ygR A v0 11 8 (fun a1 => yrd A a1 (0 : Int32) (fun x2 => ygR A v0 11 8 (fun a3 => yrd A a3 (1 : Int32) (fun x4 => (if v1 = (99 : Int32) then ((yi (yvt [(11, 144)] (ycall n) [.ref v0, .int x2] A)).bind (fun z24 => if z24.1 = 0 then (if (0 : Int32) = 0 ∨ (0 : Int32) = 1 then some (some (.int (0 : Int32)), z24.2) else none) else ((yi (yvt [(11, 145)] (ycall n) [.ref v0, .int x4] z24.2)).bind (fun z25 => if z25.1 = 0 then (if (0 : Int32) = 0 ∨ (0 : Int32) = 1 then some (some (.int (0 : Int32)), z25.2) else none) else ((yi (yvt [(11, 162)] (ycall n) [.ref v0, .int x2, .int x4] z25.2)).bind (fun z26 => if z26.1 = 0 then (if (0 : Int32) = 0 ∨ (0 : Int32) = 1 then some (some (.int (0 : Int32)), z26.2) else none) else (ygR z26.2 v0 11 0 (fun a27 => (yv ((ycall n) 161 [.ref a27, .int x2, .int x4] z26.2)).bind (fun A28 => if (1 : Int32) = 0 ∨ (1 : Int32) = 1 then some (some (.int (1 : Int32)), A28) else none))))))))) else (if v1 = (100 : Int32) then ((yi (yvt [(11, 144)] (ycall n) [.ref v0, .int x2] A)).bind (fun z19 => if z19.1 = 0 then (if (0 : Int32) = 0 ∨ (0 : Int32) = 1 then some (some (.int (0 : Int32)), z19.2) else none) else (ygR z19.2 v0 11 0 (fun a20 => (yi ((ycall n) 142 [.int x2, .int (2 : Int32)] z19.2)).bind (fun z21 => yrd z21.2 a20 z21.1 (fun x22 => ywr z21.2 a20 z21.1 (x22 ^^^ (1 : Int32)) (fun A23 => if (1 : Int32) = 0 ∨ (1 : Int32) = 1 then some (some (.int (1 : Int32)), A23) else none))))))) else (if v1 = (101 : Int32) then ((yi (yvt [(11, 144)] (ycall n) [.ref v0, .int x2] A)).bind (fun z13 => if z13.1 = 0 then (if (0 : Int32) = 0 ∨ (0 : Int32) = 1 then some (some (.int (0 : Int32)), z13.2) else none) else (if (6 : Int32) ≤ x4 then (if (0 : Int32) = 0 ∨ (0 : Int32) = 1 then some (some (.int (0 : Int32)), z13.2) else none) else (ygR z13.2 v0 11 8 (fun a14 => yrd z13.2 a14 (3 : Int32) (fun x15 => if x15 = (99 : Int32) then (yb_X12_isDone (ycall n) (121, [some (.ref v0), none, some (.int x2), some (.int x4)], [], z13.2)) else (ygR z13.2 v0 11 8 (fun a16 => yrd z13.2 a16 (3 : Int32) (fun x17 => (yi (yvt [(11, 145)] (ycall n) [.ref v0, .int x17] z13.2)).bind (fun z18 => if z18.1 = 0 then (if (0 : Int32) = 0 ∨ (0 : Int32) = 1 then some (some (.int (0 : Int32)), z18.2) else none) else (yb_X12_isDone (ycall n) (121, [some (.ref v0), none, some (.int x2), some (.int x4)], [], z18.2)))))))))))) else (if v1 = (115 : Int32) then (if (8 : Int32) ≤ x2 then (if (0 : Int32) = 0 ∨ (0 : Int32) = 1 then some (some (.int (0 : Int32)), A) else none) else (ygR A v0 11 0 (fun a10 => yrd A a10 (0 : Int32) (fun x11 => if x11 = (6 : Int32) then (if (0 : Int32) = 0 ∨ (0 : Int32) = 1 then some (some (.int (0 : Int32)), A) else none) else ((yv (yvt [(11, 166)] (ycall n) [.ref v0, .int x2, .int x4] A)).bind (fun A12 => if (1 : Int32) = 0 ∨ (1 : Int32) = 1 then some (some (.int (1 : Int32)), A12) else none)))))) else ((yi ((ycall n) 138 [.int x2, .int (1 : Int32), .int (60 : Int32)] A)).bind (fun z5 => if z5.1 = 0 then (if (0 : Int32) = 0 ∨ (0 : Int32) = 1 then some (some (.int (0 : Int32)), z5.2) else none) else (ygR z5.2 v0 11 0 (fun a6 => yrd z5.2 a6 (2 : Int32) (fun x7 => if (x7 + x2) ≤ (999 : Int32) then (ygR z5.2 v0 11 0 (fun a8 => (yv ((ycall n) 159 [.ref a8, .int x2] z5.2)).bind (fun A9 => if (1 : Int32) = 0 ∨ (1 : Int32) = 1 then some (some (.int (1 : Int32)), A9) else none))) else (if (0 : Int32) = 0 ∨ (0 : Int32) = 1 then some (some (.int (0 : Int32)), z5.2) else none)))))))))))))) := (ybig_blk 35 _).trans (z_aload_n cd_X12_isDone_0 (j := 0) rfl rfl (p := 1) rfl (zgo rfl (z_getR cd_X12_isDone_1 fd_X12_22 (p := 4) rfl (fun _ => (zgo rfl (z_iconst cd_X12_isDone_4 ki_0 (p := 5) rfl (zgo rfl (z_iaload cd_X12_isDone_5 (p := 6) rfl (fun _ => (zgo rfl (z_istore_n cd_X12_isDone_6 (j := 2) rfl rfl (p := 7) rfl (zgo rfl (z_aload_n cd_X12_isDone_7 (j := 0) rfl rfl (p := 8) rfl (zgo rfl (z_getR cd_X12_isDone_8 fd_X12_22 (p := 11) rfl (fun _ => (zgo rfl (z_iconst cd_X12_isDone_11 ki_1 (p := 12) rfl (zgo rfl (z_iaload cd_X12_isDone_12 (p := 13) rfl (fun _ => (zgo rfl (z_istore_n cd_X12_isDone_13 (j := 3) rfl rfl (p := 14) rfl (zgo rfl (z_iload_n cd_X12_isDone_14 (j := 1) rfl rfl (p := 15) rfl (zgo rfl (z_lsw cd_X12_isDone_15 (p := 232) rfl (ps := [(99, 168), (100, 206), (101, 83), (115, 56)]) rfl (z_swc ki_99 (zgo rfl (z_aload_n cd_X12_isDone_168 (j := 0) rfl rfl (p := 169) rfl (zgo rfl (z_iload_n cd_X12_isDone_169 (j := 2) rfl rfl (p := 170) rfl (zgo rfl (z_cv1 cd_X12_isDone_170 (zv (key := 342) (by decide)) cl_X12_c342 rfl rfl rfl rfl (p := 173) rfl (fun _ => (zgo rfl (z_if_eq cd_X12_isDone_173 (p := 193) rfl (p2 := 176) rfl (zgo rfl (z_iconst cd_X12_isDone_193 ki_0 (p := 194) rfl (zgo rfl (z_zret cd_X12_isDone_194 rfl)))) (zgo rfl (z_aload_n cd_X12_isDone_176 (j := 0) rfl rfl (p := 177) rfl (zgo rfl (z_iload_n cd_X12_isDone_177 (j := 3) rfl rfl (p := 178) rfl (zgo rfl (z_cv1 cd_X12_isDone_178 (zv (key := 354) (by decide)) cl_X12_c354 rfl rfl rfl rfl (p := 181) rfl (fun _ => (zgo rfl (z_if_eq cd_X12_isDone_181 (p := 193) rfl (p2 := 184) rfl (zgo rfl (z_iconst cd_X12_isDone_193 ki_0 (p := 194) rfl (zgo rfl (z_zret cd_X12_isDone_194 rfl)))) (zgo rfl (z_aload_n cd_X12_isDone_184 (j := 0) rfl rfl (p := 185) rfl (zgo rfl (z_iload_n cd_X12_isDone_185 (j := 2) rfl rfl (p := 186) rfl (zgo rfl (z_iload_n cd_X12_isDone_186 (j := 3) rfl rfl (p := 187) rfl (zgo rfl (z_cv1 cd_X12_isDone_187 (zv (key := 375) (by decide)) cl_X12_c375 rfl rfl rfl rfl (p := 190) rfl (fun _ => (zgo rfl (z_if_ne cd_X12_isDone_190 (p := 195) rfl (p2 := 193) rfl (zgo rfl (z_iconst cd_X12_isDone_193 ki_0 (p := 194) rfl (zgo rfl (z_zret cd_X12_isDone_194 rfl)))) (zgo rfl (z_aload_n cd_X12_isDone_195 (j := 0) rfl rfl (p := 196) rfl (zgo rfl (z_getR cd_X12_isDone_196 fd_X12_9 (p := 199) rfl (fun _ => (zgo rfl (z_iload_n cd_X12_isDone_199 (j := 2) rfl rfl (p := 200) rfl (zgo rfl (z_iload_n cd_X12_isDone_200 (j := 3) rfl rfl (p := 201) rfl (zgo rfl (z_cs0 cd_X12_isDone_201 (zs (key := 385) (by decide)) cl_X12_c385 rfl rfl rfl rfl (p := 204) rfl (fun _ => (zgo rfl (z_iconst cd_X12_isDone_204 ki_1 (p := 205) rfl (zgo rfl (z_zret cd_X12_isDone_205 rfl))))))))))))))))))))))))))))))))))))))))))))) (z_swc ki_100 (zgo rfl (z_aload_n cd_X12_isDone_206 (j := 0) rfl rfl (p := 207) rfl (zgo rfl (z_iload_n cd_X12_isDone_207 (j := 2) rfl rfl (p := 208) rfl (zgo rfl (z_cv1 cd_X12_isDone_208 (zv (key := 342) (by decide)) cl_X12_c342 rfl rfl rfl rfl (p := 211) rfl (fun _ => (zgo rfl (z_if_ne cd_X12_isDone_211 (p := 216) rfl (p2 := 214) rfl (zgo rfl (z_iconst cd_X12_isDone_214 ki_0 (p := 215) rfl (zgo rfl (z_zret cd_X12_isDone_215 rfl)))) (zgo rfl (z_aload_n cd_X12_isDone_216 (j := 0) rfl rfl (p := 217) rfl (zgo rfl (z_getR cd_X12_isDone_217 fd_X12_9 (p := 220) rfl (fun _ => (zgo rfl (z_iload_n cd_X12_isDone_220 (j := 2) rfl rfl (p := 221) rfl (zgo rfl (z_iconst cd_X12_isDone_221 ki_2 (p := 222) rfl (zgo rfl (z_cs1 cd_X12_isDone_222 (zs (key := 151) (by decide)) cl_X12_c151 rfl rfl rfl rfl (p := 225) rfl (fun _ => (zgo rfl (z_dup2 cd_X12_isDone_225 (p := 226) rfl (zgo rfl (z_iaload cd_X12_isDone_226 (p := 227) rfl (fun _ => (zgo rfl (z_iconst cd_X12_isDone_227 ki_1 (p := 228) rfl (zgo rfl (z_ixor cd_X12_isDone_228 (p := 229) rfl (zgo rfl (z_iastore cd_X12_isDone_229 (p := 230) rfl (fun _ => (zgo rfl (z_iconst cd_X12_isDone_230 ki_1 (p := 231) rfl (zgo rfl (z_zret cd_X12_isDone_231 rfl))))))))))))))))))))))))))))))))))))) (z_swc ki_101 (zgo rfl (z_aload_n cd_X12_isDone_83 (j := 0) rfl rfl (p := 84) rfl (zgo rfl (z_iload_n cd_X12_isDone_84 (j := 2) rfl rfl (p := 85) rfl (zgo rfl (z_cv1 cd_X12_isDone_85 (zv (key := 342) (by decide)) cl_X12_c342 rfl rfl rfl rfl (p := 88) rfl (fun _ => (zgo rfl (z_if_eq cd_X12_isDone_88 (p := 143) rfl (p2 := 91) rfl (zgo rfl (z_iconst cd_X12_isDone_143 ki_0 (p := 144) rfl (zgo rfl (z_zret cd_X12_isDone_144 rfl)))) (zgo rfl (z_iload_n cd_X12_isDone_91 (j := 3) rfl rfl (p := 92) rfl (zgo rfl (z_bipush cd_X12_isDone_92 kb_6 (p := 94) rfl (zgo rfl (z_ic_ge cd_X12_isDone_94 (p := 143) rfl (p2 := 97) rfl (zgo rfl (z_iconst cd_X12_isDone_143 ki_0 (p := 144) rfl (zgo rfl (z_zret cd_X12_isDone_144 rfl)))) (zgo rfl (z_aload_n cd_X12_isDone_97 (j := 0) rfl rfl (p := 98) rfl (zgo rfl (z_getR cd_X12_isDone_98 fd_X12_22 (p := 101) rfl (fun _ => (zgo rfl (z_iconst cd_X12_isDone_101 ki_3 (p := 102) rfl (zgo rfl (z_iaload cd_X12_isDone_102 (p := 103) rfl (fun _ => (zgo rfl (z_bipush cd_X12_isDone_103 kb_99 (p := 105) rfl (zgo rfl (z_ic_eq cd_X12_isDone_105 (p := 121) rfl (p2 := 108) rfl (zcut (p := 121) rfl rfl) (zgo rfl (z_aload_n cd_X12_isDone_108 (j := 0) rfl rfl (p := 109) rfl (zgo rfl (z_aload_n cd_X12_isDone_109 (j := 0) rfl rfl (p := 110) rfl (zgo rfl (z_getR cd_X12_isDone_110 fd_X12_22 (p := 113) rfl (fun _ => (zgo rfl (z_iconst cd_X12_isDone_113 ki_3 (p := 114) rfl (zgo rfl (z_iaload cd_X12_isDone_114 (p := 115) rfl (fun _ => (zgo rfl (z_cv1 cd_X12_isDone_115 (zv (key := 354) (by decide)) cl_X12_c354 rfl rfl rfl rfl (p := 118) rfl (fun _ => (zgo rfl (z_if_eq cd_X12_isDone_118 (p := 143) rfl (p2 := 121) rfl (zgo rfl (z_iconst cd_X12_isDone_143 ki_0 (p := 144) rfl (zgo rfl (z_zret cd_X12_isDone_144 rfl)))) (zcut (p := 121) rfl rfl))))))))))))))))))))))))))))))))))))))))))))))) (z_swc ki_115 (zgo rfl (z_iload_n cd_X12_isDone_56 (j := 2) rfl rfl (p := 57) rfl (zgo rfl (z_bipush cd_X12_isDone_57 kb_8 (p := 59) rfl (zgo rfl (z_ic_ge cd_X12_isDone_59 (p := 73) rfl (p2 := 62) rfl (zgo rfl (z_iconst cd_X12_isDone_73 ki_0 (p := 74) rfl (zgo rfl (z_zret cd_X12_isDone_74 rfl)))) (zgo rfl (z_aload_n cd_X12_isDone_62 (j := 0) rfl rfl (p := 63) rfl (zgo rfl (z_getR cd_X12_isDone_63 fd_X12_9 (p := 66) rfl (fun _ => (zgo rfl (z_iconst cd_X12_isDone_66 ki_0 (p := 67) rfl (zgo rfl (z_iaload cd_X12_isDone_67 (p := 68) rfl (fun _ => (zgo rfl (z_bipush cd_X12_isDone_68 kb_6 (p := 70) rfl (zgo rfl (z_ic_ne cd_X12_isDone_70 (p := 75) rfl (p2 := 73) rfl (zgo rfl (z_iconst cd_X12_isDone_73 ki_0 (p := 74) rfl (zgo rfl (z_zret cd_X12_isDone_74 rfl)))) (zgo rfl (z_aload_n cd_X12_isDone_75 (j := 0) rfl rfl (p := 76) rfl (zgo rfl (z_iload_n cd_X12_isDone_76 (j := 2) rfl rfl (p := 77) rfl (zgo rfl (z_iload_n cd_X12_isDone_77 (j := 3) rfl rfl (p := 78) rfl (zgo rfl (z_cv0 cd_X12_isDone_78 (zv (key := 330) (by decide)) cl_X12_c330 rfl rfl rfl rfl (p := 81) rfl (fun _ => (zgo rfl (z_iconst cd_X12_isDone_81 ki_1 (p := 82) rfl (zgo rfl (z_zret cd_X12_isDone_82 rfl))))))))))))))))))))))))))))))))) (z_swn (zgo rfl (z_iload_n cd_X12_isDone_232 (j := 2) rfl rfl (p := 233) rfl (zgo rfl (z_iconst cd_X12_isDone_233 ki_1 (p := 234) rfl (zgo rfl (z_bipush cd_X12_isDone_234 kb_60 (p := 236) rfl (zgo rfl (z_cs1 cd_X12_isDone_236 (zs (key := 139) (by decide)) cl_X12_c139 rfl rfl rfl rfl (p := 239) rfl (fun _ => (zgo rfl (z_if_eq cd_X12_isDone_239 (p := 256) rfl (p2 := 242) rfl (zgo rfl (z_iconst cd_X12_isDone_256 ki_0 (p := 257) rfl (zgo rfl (z_zret cd_X12_isDone_257 rfl)))) (zgo rfl (z_aload_n cd_X12_isDone_242 (j := 0) rfl rfl (p := 243) rfl (zgo rfl (z_getR cd_X12_isDone_243 fd_X12_9 (p := 246) rfl (fun _ => (zgo rfl (z_iconst cd_X12_isDone_246 ki_2 (p := 247) rfl (zgo rfl (z_iaload cd_X12_isDone_247 (p := 248) rfl (fun _ => (zgo rfl (z_iload_n cd_X12_isDone_248 (j := 2) rfl rfl (p := 249) rfl (zgo rfl (z_iadd cd_X12_isDone_249 (p := 250) rfl (zgo rfl (z_sipush cd_X12_isDone_250 ks_999 (p := 253) rfl (zgo rfl (z_ic_le cd_X12_isDone_253 (p := 258) rfl (p2 := 256) rfl (zgo rfl (z_aload_n cd_X12_isDone_258 (j := 0) rfl rfl (p := 259) rfl (zgo rfl (z_getR cd_X12_isDone_259 fd_X12_9 (p := 262) rfl (fun _ => (zgo rfl (z_iload_n cd_X12_isDone_262 (j := 2) rfl rfl (p := 263) rfl (zgo rfl (z_cs0 cd_X12_isDone_263 (zs (key := 397) (by decide)) cl_X12_c397 rfl rfl rfl rfl (p := 266) rfl (fun _ => (zgo rfl (z_iconst cd_X12_isDone_266 ki_1 (p := 267) rfl (zgo rfl (z_zret cd_X12_isDone_267 rfl)))))))))))))) (zgo rfl (z_iconst cd_X12_isDone_256 ki_0 (p := 257) rfl (zgo rfl (z_zret cd_X12_isDone_257 rfl)))))))))))))))))))))))))))))))))))))))))))))))))))))))))))))))))
theorem bk_X12_isDone_121 (C : yC) (A : yM) (v0 : Nat) (v2 : Int32) (v3 : Int32) : yb_X12_isDone C (121, [some (.ref v0), none, some (.int v2), some (.int v3)], [], A) = ygR A v0 11 0 (fun a1 => (yi (C 146 [.ref a1, .int v2] A)).bind (fun z2 => if z2.1 = 0 then (if (0 : Int32) = 0 ∨ (0 : Int32) = 1 then some (some (.int (0 : Int32)), z2.2) else none) else (ygR z2.2 v0 11 0 (fun a3 => yrd z2.2 a3 (1 : Int32) (fun x4 => if x4 = (12 : Int32) then (if (0 : Int32) = 0 ∨ (0 : Int32) = 1 then some (some (.int (0 : Int32)), z2.2) else none) else (ygR z2.2 v0 11 0 (fun a5 => ygR z2.2 v0 11 8 (fun a6 => yrd z2.2 a6 (2 : Int32) (fun x7 => ygR z2.2 v0 11 8 (fun a8 => yrd z2.2 a8 (3 : Int32) (fun x9 => (yv (C 160 [.ref a5, .int v2, .int v3, .int x7, .int x9] z2.2)).bind (fun A10 => if (1 : Int32) = 0 ∨ (1 : Int32) = 1 then some (some (.int (1 : Int32)), A10) else none)))))))))))) := (ybig_blk 27 _).trans (z_aload_n cd_X12_isDone_121 (j := 0) rfl rfl (p := 122) rfl (zgo rfl (z_getR cd_X12_isDone_122 fd_X12_9 (p := 125) rfl (fun _ => (zgo rfl (z_iload_n cd_X12_isDone_125 (j := 2) rfl rfl (p := 126) rfl (zgo rfl (z_cs1 cd_X12_isDone_126 (zs (key := 241) (by decide)) cl_X12_c241 rfl rfl rfl rfl (p := 129) rfl (fun _ => (zgo rfl (z_if_eq cd_X12_isDone_129 (p := 143) rfl (p2 := 132) rfl (zgo rfl (z_iconst cd_X12_isDone_143 ki_0 (p := 144) rfl (zgo rfl (z_zret cd_X12_isDone_144 rfl)))) (zgo rfl (z_aload_n cd_X12_isDone_132 (j := 0) rfl rfl (p := 133) rfl (zgo rfl (z_getR cd_X12_isDone_133 fd_X12_9 (p := 136) rfl (fun _ => (zgo rfl (z_iconst cd_X12_isDone_136 ki_1 (p := 137) rfl (zgo rfl (z_iaload cd_X12_isDone_137 (p := 138) rfl (fun _ => (zgo rfl (z_bipush cd_X12_isDone_138 kb_12 (p := 140) rfl (zgo rfl (z_ic_ne cd_X12_isDone_140 (p := 145) rfl (p2 := 143) rfl (zgo rfl (z_iconst cd_X12_isDone_143 ki_0 (p := 144) rfl (zgo rfl (z_zret cd_X12_isDone_144 rfl)))) (zgo rfl (z_aload_n cd_X12_isDone_145 (j := 0) rfl rfl (p := 146) rfl (zgo rfl (z_getR cd_X12_isDone_146 fd_X12_9 (p := 149) rfl (fun _ => (zgo rfl (z_iload_n cd_X12_isDone_149 (j := 2) rfl rfl (p := 150) rfl (zgo rfl (z_iload_n cd_X12_isDone_150 (j := 3) rfl rfl (p := 151) rfl (zgo rfl (z_aload_n cd_X12_isDone_151 (j := 0) rfl rfl (p := 152) rfl (zgo rfl (z_getR cd_X12_isDone_152 fd_X12_22 (p := 155) rfl (fun _ => (zgo rfl (z_iconst cd_X12_isDone_155 ki_2 (p := 156) rfl (zgo rfl (z_iaload cd_X12_isDone_156 (p := 157) rfl (fun _ => (zgo rfl (z_aload_n cd_X12_isDone_157 (j := 0) rfl rfl (p := 158) rfl (zgo rfl (z_getR cd_X12_isDone_158 fd_X12_22 (p := 161) rfl (fun _ => (zgo rfl (z_iconst cd_X12_isDone_161 ki_3 (p := 162) rfl (zgo rfl (z_iaload cd_X12_isDone_162 (p := 163) rfl (fun _ => (zgo rfl (z_cs0 cd_X12_isDone_163 (zs (key := 364) (by decide)) cl_X12_c364 rfl rfl rfl rfl (p := 166) rfl (fun _ => (zgo rfl (z_iconst cd_X12_isDone_166 ki_1 (p := 167) rfl (zgo rfl (z_zret cd_X12_isDone_167 rfl)))))))))))))))))))))))))))))))))))))))))))))))))))))))))))))
theorem cd_X12_college_0 : ylk m_X12_college.2.2.2.2.1 0 = some (.aload_n 0) := by decide +kernel
theorem cd_X12_college_1 : ylk m_X12_college.2.2.2.2.1 1 = some (.iload_n 1) := by decide +kernel
theorem cd_X12_college_2 : ylk m_X12_college.2.2.2.2.1 2 = some (.iconst 0) := by decide +kernel
theorem cd_X12_college_3 : ylk m_X12_college.2.2.2.2.1 3 = some (.invokevirtual 136) := by decide +kernel
theorem cd_X12_college_6 : ylk m_X12_college.2.2.2.2.1 6 = some (.istore_n 2) := by decide +kernel
theorem cd_X12_college_7 : ylk m_X12_college.2.2.2.2.1 7 = some (.iload_n 2) := by decide +kernel
theorem cd_X12_college_8 : ylk m_X12_college.2.2.2.2.1 8 = some (.ifCond .eq 5) := by decide +kernel
theorem cd_X12_college_11 : ylk m_X12_college.2.2.2.2.1 11 = some (.iload_n 2) := by decide +kernel
theorem cd_X12_college_12 : ylk m_X12_college.2.2.2.2.1 12 = some (.ireturn) := by decide +kernel
theorem cd_X12_college_13 : ylk m_X12_college.2.2.2.2.1 13 = some (.aload_n 0) := by decide +kernel
theorem cd_X12_college_14 : ylk m_X12_college.2.2.2.2.1 14 = some (.bipush 100) := by decide +kernel
theorem cd_X12_college_16 : ylk m_X12_college.2.2.2.2.1 16 = some (.iload_n 1) := by decide +kernel
theorem cd_X12_college_17 : ylk m_X12_college.2.2.2.2.1 17 = some (.imul) := by decide +kernel
theorem cd_X12_college_18 : ylk m_X12_college.2.2.2.2.1 18 = some (.putfield 99) := by decide +kernel
theorem cd_X12_college_21 : ylk m_X12_college.2.2.2.2.1 21 = some (.aload_n 0) := by decide +kernel
theorem cd_X12_college_22 : ylk m_X12_college.2.2.2.2.1 22 = some (.aload_n 0) := by decide +kernel
theorem cd_X12_college_23 : ylk m_X12_college.2.2.2.2.1 23 = some (.getfield 40) := by decide +kernel
theorem cd_X12_college_26 : ylk m_X12_college.2.2.2.2.1 26 = some (.iload_n 1) := by decide +kernel
theorem cd_X12_college_27 : ylk m_X12_college.2.2.2.2.1 27 = some (.iaload) := by decide +kernel
theorem cd_X12_college_28 : ylk m_X12_college.2.2.2.2.1 28 = some (.putfield 96) := by decide +kernel
theorem cd_X12_college_31 : ylk m_X12_college.2.2.2.2.1 31 = some (.aload_n 0) := by decide +kernel
theorem cd_X12_college_32 : ylk m_X12_college.2.2.2.2.1 32 = some (.iconst 0) := by decide +kernel
theorem cd_X12_college_33 : ylk m_X12_college.2.2.2.2.1 33 = some (.putfield 92) := by decide +kernel
theorem cd_X12_college_36 : ylk m_X12_college.2.2.2.2.1 36 = some (.iconst 0) := by decide +kernel
theorem cd_X12_college_37 : ylk m_X12_college.2.2.2.2.1 37 = some (.istore_n 3) := by decide +kernel
theorem cd_X12_college_38 : ylk m_X12_college.2.2.2.2.1 38 = some (.iconst 0) := by decide +kernel
theorem cd_X12_college_39 : ylk m_X12_college.2.2.2.2.1 39 = some (.istore 4) := by decide +kernel
theorem cd_X12_college_41 : ylk m_X12_college.2.2.2.2.1 41 = some (.aload_n 0) := by decide +kernel
theorem cd_X12_college_42 : ylk m_X12_college.2.2.2.2.1 42 = some (.invokevirtual 139) := by decide +kernel
theorem cd_X12_college_45 : ylk m_X12_college.2.2.2.2.1 45 = some (.ifCond .ne 13) := by decide +kernel
theorem cd_X12_college_48 : ylk m_X12_college.2.2.2.2.1 48 = some (.sipush (-1000)) := by decide +kernel
theorem cd_X12_college_51 : ylk m_X12_college.2.2.2.2.1 51 = some (.aload_n 0) := by decide +kernel
theorem cd_X12_college_52 : ylk m_X12_college.2.2.2.2.1 52 = some (.getfield 92) := by decide +kernel
theorem cd_X12_college_55 : ylk m_X12_college.2.2.2.2.1 55 = some (.isub) := by decide +kernel
theorem cd_X12_college_56 : ylk m_X12_college.2.2.2.2.1 56 = some (.istore 4) := by decide +kernel
theorem cd_X12_college_58 : ylk m_X12_college.2.2.2.2.1 58 = some (.iinc 3 1) := by decide +kernel
theorem cd_X12_college_61 : ylk m_X12_college.2.2.2.2.1 61 = some (.iload 4) := by decide +kernel
theorem cd_X12_college_63 : ylk m_X12_college.2.2.2.2.1 63 = some (.ifCond .ne 14) := by decide +kernel
theorem cd_X12_college_66 : ylk m_X12_college.2.2.2.2.1 66 = some (.aload_n 0) := by decide +kernel
theorem cd_X12_college_67 : ylk m_X12_college.2.2.2.2.1 67 = some (.getfield 92) := by decide +kernel
theorem cd_X12_college_70 : ylk m_X12_college.2.2.2.2.1 70 = some (.aload_n 0) := by decide +kernel
theorem cd_X12_college_71 : ylk m_X12_college.2.2.2.2.1 71 = some (.getfield 96) := by decide +kernel
theorem cd_X12_college_74 : ylk m_X12_college.2.2.2.2.1 74 = some (.if_icmp .lt (-33)) := by decide +kernel
theorem cd_X12_college_77 : ylk m_X12_college.2.2.2.2.1 77 = some (.aload_n 0) := by decide +kernel
theorem cd_X12_college_78 : ylk m_X12_college.2.2.2.2.1 78 = some (.getfield 9) := by decide +kernel
theorem cd_X12_college_81 : ylk m_X12_college.2.2.2.2.1 81 = some (.aload_n 0) := by decide +kernel
theorem cd_X12_college_82 : ylk m_X12_college.2.2.2.2.1 82 = some (.getfield 19) := by decide +kernel
theorem cd_X12_college_85 : ylk m_X12_college.2.2.2.2.1 85 = some (.invokestatic 143) := by decide +kernel
theorem cd_X12_college_88 : ylk m_X12_college.2.2.2.2.1 88 = some (.aload_n 0) := by decide +kernel
theorem cd_X12_college_89 : ylk m_X12_college.2.2.2.2.1 89 = some (.iconst 0) := by decide +kernel
theorem cd_X12_college_90 : ylk m_X12_college.2.2.2.2.1 90 = some (.putfield 92) := by decide +kernel
theorem cd_X12_college_93 : ylk m_X12_college.2.2.2.2.1 93 = some (.iload 4) := by decide +kernel
theorem cd_X12_college_95 : ylk m_X12_college.2.2.2.2.1 95 = some (.ifCond .ne 66) := by decide +kernel
theorem cd_X12_college_98 : ylk m_X12_college.2.2.2.2.1 98 = some (.aload_n 0) := by decide +kernel
theorem cd_X12_college_99 : ylk m_X12_college.2.2.2.2.1 99 = some (.getfield 92) := by decide +kernel
theorem cd_X12_college_102 : ylk m_X12_college.2.2.2.2.1 102 = some (.aload_n 0) := by decide +kernel
theorem cd_X12_college_103 : ylk m_X12_college.2.2.2.2.1 103 = some (.getfield 96) := by decide +kernel
theorem cd_X12_college_106 : ylk m_X12_college.2.2.2.2.1 106 = some (.if_icmp .ge 55) := by decide +kernel
theorem cd_X12_college_109 : ylk m_X12_college.2.2.2.2.1 109 = some (.aload_n 0) := by decide +kernel
theorem cd_X12_college_110 : ylk m_X12_college.2.2.2.2.1 110 = some (.getfield 92) := by decide +kernel
theorem cd_X12_college_113 : ylk m_X12_college.2.2.2.2.1 113 = some (.istore 5) := by decide +kernel
theorem cd_X12_college_115 : ylk m_X12_college.2.2.2.2.1 115 = some (.aload_n 0) := by decide +kernel
theorem cd_X12_college_116 : ylk m_X12_college.2.2.2.2.1 116 = some (.invokevirtual 102) := by decide +kernel
theorem cd_X12_college_119 : ylk m_X12_college.2.2.2.2.1 119 = some (.istore 6) := by decide +kernel
theorem cd_X12_college_121 : ylk m_X12_college.2.2.2.2.1 121 = some (.aload_n 0) := by decide +kernel
theorem cd_X12_college_122 : ylk m_X12_college.2.2.2.2.1 122 = some (.invokevirtual 139) := by decide +kernel
theorem cd_X12_college_125 : ylk m_X12_college.2.2.2.2.1 125 = some (.istore 7) := by decide +kernel
theorem cd_X12_college_127 : ylk m_X12_college.2.2.2.2.1 127 = some (.aload_n 0) := by decide +kernel
theorem cd_X12_college_128 : ylk m_X12_college.2.2.2.2.1 128 = some (.iload 6) := by decide +kernel
theorem cd_X12_college_130 : ylk m_X12_college.2.2.2.2.1 130 = some (.invokevirtual 147) := by decide +kernel
theorem cd_X12_college_133 : ylk m_X12_college.2.2.2.2.1 133 = some (.ifCond .eq 6) := by decide +kernel
theorem cd_X12_college_136 : ylk m_X12_college.2.2.2.2.1 136 = some (.goto (-43)) := by decide +kernel
theorem cd_X12_college_139 : ylk m_X12_college.2.2.2.2.1 139 = some (.sipush (-2000)) := by decide +kernel
theorem cd_X12_college_142 : ylk m_X12_college.2.2.2.2.1 142 = some (.iload 5) := by decide +kernel
theorem cd_X12_college_144 : ylk m_X12_college.2.2.2.2.1 144 = some (.isub) := by decide +kernel
theorem cd_X12_college_145 : ylk m_X12_college.2.2.2.2.1 145 = some (.istore 4) := by decide +kernel
theorem cd_X12_college_147 : ylk m_X12_college.2.2.2.2.1 147 = some (.aload_n 0) := by decide +kernel
theorem cd_X12_college_148 : ylk m_X12_college.2.2.2.2.1 148 = some (.getfield 19) := by decide +kernel
theorem cd_X12_college_151 : ylk m_X12_college.2.2.2.2.1 151 = some (.aload_n 0) := by decide +kernel
theorem cd_X12_college_152 : ylk m_X12_college.2.2.2.2.1 152 = some (.getfield 9) := by decide +kernel
theorem cd_X12_college_155 : ylk m_X12_college.2.2.2.2.1 155 = some (.invokestatic 143) := by decide +kernel
theorem cd_X12_college_158 : ylk m_X12_college.2.2.2.2.1 158 = some (.goto (-65)) := by decide +kernel
theorem cd_X12_college_161 : ylk m_X12_college.2.2.2.2.1 161 = some (.iload 4) := by decide +kernel
theorem cd_X12_college_163 : ylk m_X12_college.2.2.2.2.1 163 = some (.ifCond .ne 7) := by decide +kernel
theorem cd_X12_college_166 : ylk m_X12_college.2.2.2.2.1 166 = some (.iload_n 3) := by decide +kernel
theorem cd_X12_college_167 : ylk m_X12_college.2.2.2.2.1 167 = some (.goto 5) := by decide +kernel
theorem cd_X12_college_170 : ylk m_X12_college.2.2.2.2.1 170 = some (.iload 4) := by decide +kernel
theorem cd_X12_college_172 : ylk m_X12_college.2.2.2.2.1 172 = some (.ireturn) := by decide +kernel
noncomputable abbrev yb_X12_college (C : yC) : ySt → Option (Option Value × yM) := yrn m_X12_college C
theorem en_X12_college (n : Nat) (A : yM) (v0 : Nat) (v1 : Int32) : ycall (n + 1) 168 [.ref v0, .int v1] A = (yi (yvt [(11, 230)] (ycall n) [.ref v0, .int v1, .int (0 : Int32)] A)).bind (fun z1 => if z1.1 = 0 then (ypI z1.2 v0 11 6 ((100 : Int32) * v1) (fun A2 => ygR A2 v0 11 15 (fun a3 => yrd A2 a3 v1 (fun x4 => ypI A2 v0 11 7 x4 (fun A5 => ypI A5 v0 11 5 (0 : Int32) (fun A6 => yb_X12_college (ycall n) (41, [some (.ref v0), none, none, some (.int (0 : Int32)), some (.int (0 : Int32)), none, none, none], [], A6))))))) else (some (some (.int z1.1), z1.2))) := (ybig_blk 26 _).trans (z_aload_n cd_X12_college_0 (j := 0) rfl rfl (p := 1) rfl (zgo rfl (z_iload_n cd_X12_college_1 (j := 1) rfl rfl (p := 2) rfl (zgo rfl (z_iconst cd_X12_college_2 ki_0 (p := 3) rfl (zgo rfl (z_cv1 cd_X12_college_3 (zv (key := 408) (by decide)) cl_X12_c408 rfl rfl rfl rfl (p := 6) rfl (fun _ => (zgo rfl (z_istore_n cd_X12_college_6 (j := 2) rfl rfl (p := 7) rfl (zgo rfl (z_iload_n cd_X12_college_7 (j := 2) rfl rfl (p := 8) rfl (zgo rfl (z_if_eq cd_X12_college_8 (p := 13) rfl (p2 := 11) rfl (zgo rfl (z_aload_n cd_X12_college_13 (j := 0) rfl rfl (p := 14) rfl (zgo rfl (z_bipush cd_X12_college_14 kb_100 (p := 16) rfl (zgo rfl (z_iload_n cd_X12_college_16 (j := 1) rfl rfl (p := 17) rfl (zgo rfl (z_imul cd_X12_college_17 (p := 18) rfl (zgo rfl (z_putI cd_X12_college_18 fd_X12_99 (p := 21) rfl (fun _ => (zgo rfl (z_aload_n cd_X12_college_21 (j := 0) rfl rfl (p := 22) rfl (zgo rfl (z_aload_n cd_X12_college_22 (j := 0) rfl rfl (p := 23) rfl (zgo rfl (z_getR cd_X12_college_23 fd_X12_40 (p := 26) rfl (fun _ => (zgo rfl (z_iload_n cd_X12_college_26 (j := 1) rfl rfl (p := 27) rfl (zgo rfl (z_iaload cd_X12_college_27 (p := 28) rfl (fun _ => (zgo rfl (z_putI cd_X12_college_28 fd_X12_96 (p := 31) rfl (fun _ => (zgo rfl (z_aload_n cd_X12_college_31 (j := 0) rfl rfl (p := 32) rfl (zgo rfl (z_iconst cd_X12_college_32 ki_0 (p := 33) rfl (zgo rfl (z_putI cd_X12_college_33 fd_X12_92 (p := 36) rfl (fun _ => (zgo rfl (z_iconst cd_X12_college_36 ki_0 (p := 37) rfl (zgo rfl (z_istore_n cd_X12_college_37 (j := 3) rfl rfl (p := 38) rfl (zgo rfl (z_iconst cd_X12_college_38 ki_0 (p := 39) rfl (zgo rfl (z_istore cd_X12_college_39 rfl (p := 41) rfl (zcut (p := 41) rfl rfl)))))))))))))))))))))))))))))))))))))))))) (zgo rfl (z_iload_n cd_X12_college_11 (j := 2) rfl rfl (p := 12) rfl (zgo rfl (z_iret cd_X12_college_12 rfl))))))))))))))))))
theorem bk_X12_college_41 (C : yC) (A : yM) (v0 : Nat) (v3 : Int32) (v4 : Int32) : yb_X12_college C (41, [some (.ref v0), none, none, some (.int v3), some (.int v4), none, none, none], [], A) = (yi (yvt [(11, 165)] C [.ref v0] A)).bind (fun z1 => if z1.1 = 0 then (ygI z1.2 v0 11 5 (fun x2 => yb_X12_college C (58, [some (.ref v0), none, none, some (.int v3), some (.int ((-1000 : Int32) - x2)), none, none, none], [], z1.2))) else (yb_X12_college C (58, [some (.ref v0), none, none, some (.int v3), some (.int v4), none, none, none], [], z1.2))) := (ybig_blk 9 _).trans (z_aload_n cd_X12_college_41 (j := 0) rfl rfl (p := 42) rfl (zgo rfl (z_cv1 cd_X12_college_42 (zv (key := 417) (by decide)) cl_X12_c417 rfl rfl rfl rfl (p := 45) rfl (fun _ => (zgo rfl (z_if_ne cd_X12_college_45 (p := 58) rfl (p2 := 48) rfl (zgo rfl (z_sipush cd_X12_college_48 ks_m1000 (p := 51) rfl (zgo rfl (z_aload_n cd_X12_college_51 (j := 0) rfl rfl (p := 52) rfl (zgo rfl (z_getI cd_X12_college_52 fd_X12_92 (p := 55) rfl (fun _ => (zgo rfl (z_isub cd_X12_college_55 (p := 56) rfl (zgo rfl (z_istore cd_X12_college_56 rfl (p := 58) rfl (zcut (p := 58) rfl rfl)))))))))))) (zcut (p := 58) rfl rfl)))))))
theorem bk_X12_college_58 (C : yC) (A : yM) (v0 : Nat) (v3 : Int32) (v4 : Int32) : yb_X12_college C (58, [some (.ref v0), none, none, some (.int v3), some (.int v4), none, none, none], [], A) = if v4 = 0 then (ygI A v0 11 5 (fun x1 => ygI A v0 11 7 (fun x2 => if x1 < x2 then (yb_X12_college C (41, [some (.ref v0), none, none, some (.int (v3 + (1 : Int32))), some (.int v4), none, none, none], [], A)) else (yb_X12_college C (77, [some (.ref v0), none, none, some (.int (v3 + (1 : Int32))), some (.int v4), none, none, none], [], A))))) else (yb_X12_college C (77, [some (.ref v0), none, none, some (.int (v3 + (1 : Int32))), some (.int v4), none, none, none], [], A)) := (ybig_blk 9 _).trans (z_iinc cd_X12_college_58 ki_1 rfl rfl (p := 61) rfl (zgo rfl (z_iload cd_X12_college_61 rfl (p := 63) rfl (zgo rfl (z_if_ne cd_X12_college_63 (p := 77) rfl (p2 := 66) rfl (zgo rfl (z_aload_n cd_X12_college_66 (j := 0) rfl rfl (p := 67) rfl (zgo rfl (z_getI cd_X12_college_67 fd_X12_92 (p := 70) rfl (fun _ => (zgo rfl (z_aload_n cd_X12_college_70 (j := 0) rfl rfl (p := 71) rfl (zgo rfl (z_getI cd_X12_college_71 fd_X12_96 (p := 74) rfl (fun _ => (zgo rfl (z_ic_lt cd_X12_college_74 (p := 41) rfl (p2 := 77) rfl (zcut (p := 41) rfl rfl) (zcut (p := 77) rfl rfl))))))))))))) (zcut (p := 77) rfl rfl))))))
theorem bk_X12_college_77 (C : yC) (A : yM) (v0 : Nat) (v3 : Int32) (v4 : Int32) : yb_X12_college C (77, [some (.ref v0), none, none, some (.int v3), some (.int v4), none, none, none], [], A) = ygR A v0 11 0 (fun a1 => ygR A v0 11 3 (fun a2 => (yv (C 141 [.ref a1, .ref a2] A)).bind (fun A3 => ypI A3 v0 11 5 (0 : Int32) (fun A4 => yb_X12_college C (93, [some (.ref v0), none, none, some (.int v3), some (.int v4), none, none, none], [], A4))))) := (ybig_blk 9 _).trans (z_aload_n cd_X12_college_77 (j := 0) rfl rfl (p := 78) rfl (zgo rfl (z_getR cd_X12_college_78 fd_X12_9 (p := 81) rfl (fun _ => (zgo rfl (z_aload_n cd_X12_college_81 (j := 0) rfl rfl (p := 82) rfl (zgo rfl (z_getR cd_X12_college_82 fd_X12_19 (p := 85) rfl (fun _ => (zgo rfl (z_cs0 cd_X12_college_85 (zs (key := 430) (by decide)) cl_X12_c430 rfl rfl rfl rfl (p := 88) rfl (fun _ => (zgo rfl (z_aload_n cd_X12_college_88 (j := 0) rfl rfl (p := 89) rfl (zgo rfl (z_iconst cd_X12_college_89 ki_0 (p := 90) rfl (zgo rfl (z_putI cd_X12_college_90 fd_X12_92 (p := 93) rfl (fun _ => (zcut (p := 93) rfl rfl))))))))))))))))))))
theorem bk_X12_college_93 (C : yC) (A : yM) (v0 : Nat) (v3 : Int32) (v4 : Int32) : yb_X12_college C (93, [some (.ref v0), none, none, some (.int v3), some (.int v4), none, none, none], [], A) = if v4 = 0 then (ygI A v0 11 5 (fun x1 => ygI A v0 11 7 (fun x2 => if x2 ≤ x1 then (yb_X12_college C (161, [none, none, none, some (.int v3), some (.int v4), none, none, none], [], A)) else (ygI A v0 11 5 (fun x3 => (yi (yvt [(11, 163)] C [.ref v0] A)).bind (fun z4 => (yi (yvt [(11, 165)] C [.ref v0] z4.2)).bind (fun z5 => (yi (yvt [(11, 167)] C [.ref v0, .int z4.1] z5.2)).bind (fun z6 => if z6.1 = 0 then (ygR z6.2 v0 11 3 (fun a7 => ygR z6.2 v0 11 0 (fun a8 => (yv (C 141 [.ref a7, .ref a8] z6.2)).bind (fun A9 => yb_X12_college C (93, [some (.ref v0), none, none, some (.int v3), some (.int ((-2000 : Int32) - x3)), none, none, none], [], A9))))) else (yb_X12_college C (93, [some (.ref v0), none, none, some (.int v3), some (.int v4), none, none, none], [], z6.2)))))))))) else (yb_X12_college C (161, [none, none, none, some (.int v3), some (.int v4), none, none, none], [], A)) := (ybig_blk 31 _).trans (z_iload cd_X12_college_93 rfl (p := 95) rfl (zgo rfl (z_if_ne cd_X12_college_95 (p := 161) rfl (p2 := 98) rfl (zgo rfl (z_aload_n cd_X12_college_98 (j := 0) rfl rfl (p := 99) rfl (zgo rfl (z_getI cd_X12_college_99 fd_X12_92 (p := 102) rfl (fun _ => (zgo rfl (z_aload_n cd_X12_college_102 (j := 0) rfl rfl (p := 103) rfl (zgo rfl (z_getI cd_X12_college_103 fd_X12_96 (p := 106) rfl (fun _ => (zgo rfl (z_ic_ge cd_X12_college_106 (p := 161) rfl (p2 := 109) rfl (zcut (p := 161) rfl rfl) (zgo rfl (z_aload_n cd_X12_college_109 (j := 0) rfl rfl (p := 110) rfl (zgo rfl (z_getI cd_X12_college_110 fd_X12_92 (p := 113) rfl (fun _ => (zgo rfl (z_istore cd_X12_college_113 rfl (p := 115) rfl (zgo rfl (z_aload_n cd_X12_college_115 (j := 0) rfl rfl (p := 116) rfl (zgo rfl (z_cv1 cd_X12_college_116 (zv (key := 306) (by decide)) cl_X12_c306 rfl rfl rfl rfl (p := 119) rfl (fun _ => (zgo rfl (z_istore cd_X12_college_119 rfl (p := 121) rfl (zgo rfl (z_aload_n cd_X12_college_121 (j := 0) rfl rfl (p := 122) rfl (zgo rfl (z_cv1 cd_X12_college_122 (zv (key := 417) (by decide)) cl_X12_c417 rfl rfl rfl rfl (p := 125) rfl (fun _ => (zgo rfl (z_istore cd_X12_college_125 rfl (p := 127) rfl (zgo rfl (z_aload_n cd_X12_college_127 (j := 0) rfl rfl (p := 128) rfl (zgo rfl (z_iload cd_X12_college_128 rfl (p := 130) rfl (zgo rfl (z_cv1 cd_X12_college_130 (zv (key := 441) (by decide)) cl_X12_c441 rfl rfl rfl rfl (p := 133) rfl (fun _ => (zgo rfl (z_if_eq cd_X12_college_133 (p := 139) rfl (p2 := 136) rfl (zgo rfl (z_sipush cd_X12_college_139 ks_m2000 (p := 142) rfl (zgo rfl (z_iload cd_X12_college_142 rfl (p := 144) rfl (zgo rfl (z_isub cd_X12_college_144 (p := 145) rfl (zgo rfl (z_istore cd_X12_college_145 rfl (p := 147) rfl (zgo rfl (z_aload_n cd_X12_college_147 (j := 0) rfl rfl (p := 148) rfl (zgo rfl (z_getR cd_X12_college_148 fd_X12_19 (p := 151) rfl (fun _ => (zgo rfl (z_aload_n cd_X12_college_151 (j := 0) rfl rfl (p := 152) rfl (zgo rfl (z_getR cd_X12_college_152 fd_X12_9 (p := 155) rfl (fun _ => (zgo rfl (z_cs0 cd_X12_college_155 (zs (key := 430) (by decide)) cl_X12_c430 rfl rfl rfl rfl (p := 158) rfl (fun _ => (zgo rfl (z_goto cd_X12_college_158 (p := 93) rfl (zcut (p := 93) rfl rfl)))))))))))))))))))))))) (zgo rfl (z_goto cd_X12_college_136 (p := 93) rfl (zcut (p := 93) rfl rfl))))))))))))))))))))))))))))))))))))))))))))) (zcut (p := 161) rfl rfl))))
theorem bk_X12_college_161 (C : yC) (A : yM) (v3 : Int32) (v4 : Int32) : yb_X12_college C (161, [none, none, none, some (.int v3), some (.int v4), none, none, none], [], A) = if v4 = 0 then (some (some (.int v3), A)) else (some (some (.int v4), A)) := (ybig_blk 6 _).trans (z_iload cd_X12_college_161 rfl (p := 163) rfl (zgo rfl (z_if_ne cd_X12_college_163 (p := 170) rfl (p2 := 166) rfl (zgo rfl (z_iload_n cd_X12_college_166 (j := 3) rfl rfl (p := 167) rfl (zgo rfl (z_goto cd_X12_college_167 (p := 172) rfl (zgo rfl (z_iret cd_X12_college_172 rfl)))))) (zgo rfl (z_iload cd_X12_college_170 rfl (p := 172) rfl (zgo rfl (z_iret cd_X12_college_172 rfl)))))))
