theorem cd_X12_errorsOf_0 : ylk m_X12_errorsOf.2.2.2.2.1 0 = some (.iconst 0) := by decide +kernel
theorem cd_X12_errorsOf_1 : ylk m_X12_errorsOf.2.2.2.2.1 1 = some (.istore_n 2) := by decide +kernel
theorem cd_X12_errorsOf_2 : ylk m_X12_errorsOf.2.2.2.2.1 2 = some (.iconst 0) := by decide +kernel
theorem cd_X12_errorsOf_3 : ylk m_X12_errorsOf.2.2.2.2.1 3 = some (.istore_n 3) := by decide +kernel
theorem cd_X12_errorsOf_4 : ylk m_X12_errorsOf.2.2.2.2.1 4 = some (.iload_n 3) := by decide +kernel
theorem cd_X12_errorsOf_5 : ylk m_X12_errorsOf.2.2.2.2.1 5 = some (.aload_n 0) := by decide +kernel
theorem cd_X12_errorsOf_6 : ylk m_X12_errorsOf.2.2.2.2.1 6 = some (.getfield 9) := by decide +kernel
theorem cd_X12_errorsOf_9 : ylk m_X12_errorsOf.2.2.2.2.1 9 = some (.iconst 1) := by decide +kernel
theorem cd_X12_errorsOf_10 : ylk m_X12_errorsOf.2.2.2.2.1 10 = some (.iaload) := by decide +kernel
theorem cd_X12_errorsOf_11 : ylk m_X12_errorsOf.2.2.2.2.1 11 = some (.if_icmp .ge 33) := by decide +kernel
theorem cd_X12_errorsOf_14 : ylk m_X12_errorsOf.2.2.2.2.1 14 = some (.iload_n 2) := by decide +kernel
theorem cd_X12_errorsOf_15 : ylk m_X12_errorsOf.2.2.2.2.1 15 = some (.aload_n 0) := by decide +kernel
theorem cd_X12_errorsOf_16 : ylk m_X12_errorsOf.2.2.2.2.1 16 = some (.getfield 9) := by decide +kernel
theorem cd_X12_errorsOf_19 : ylk m_X12_errorsOf.2.2.2.2.1 19 = some (.iload_n 3) := by decide +kernel
theorem cd_X12_errorsOf_20 : ylk m_X12_errorsOf.2.2.2.2.1 20 = some (.iconst 0) := by decide +kernel
theorem cd_X12_errorsOf_21 : ylk m_X12_errorsOf.2.2.2.2.1 21 = some (.invokestatic 54) := by decide +kernel
theorem cd_X12_errorsOf_24 : ylk m_X12_errorsOf.2.2.2.2.1 24 = some (.iaload) := by decide +kernel
theorem cd_X12_errorsOf_25 : ylk m_X12_errorsOf.2.2.2.2.1 25 = some (.iload_n 1) := by decide +kernel
theorem cd_X12_errorsOf_26 : ylk m_X12_errorsOf.2.2.2.2.1 26 = some (.if_icmp .ne 9) := by decide +kernel
theorem cd_X12_errorsOf_29 : ylk m_X12_errorsOf.2.2.2.2.1 29 = some (.iconst 1) := by decide +kernel
theorem cd_X12_errorsOf_30 : ylk m_X12_errorsOf.2.2.2.2.1 30 = some (.iload_n 3) := by decide +kernel
theorem cd_X12_errorsOf_31 : ylk m_X12_errorsOf.2.2.2.2.1 31 = some (.ishl) := by decide +kernel
theorem cd_X12_errorsOf_32 : ylk m_X12_errorsOf.2.2.2.2.1 32 = some (.goto 4) := by decide +kernel
theorem cd_X12_errorsOf_35 : ylk m_X12_errorsOf.2.2.2.2.1 35 = some (.iconst 0) := by decide +kernel
theorem cd_X12_errorsOf_36 : ylk m_X12_errorsOf.2.2.2.2.1 36 = some (.ior) := by decide +kernel
theorem cd_X12_errorsOf_37 : ylk m_X12_errorsOf.2.2.2.2.1 37 = some (.istore_n 2) := by decide +kernel
theorem cd_X12_errorsOf_38 : ylk m_X12_errorsOf.2.2.2.2.1 38 = some (.iinc 3 1) := by decide +kernel
theorem cd_X12_errorsOf_41 : ylk m_X12_errorsOf.2.2.2.2.1 41 = some (.goto (-37)) := by decide +kernel
theorem cd_X12_errorsOf_44 : ylk m_X12_errorsOf.2.2.2.2.1 44 = some (.iload_n 2) := by decide +kernel
theorem cd_X12_errorsOf_45 : ylk m_X12_errorsOf.2.2.2.2.1 45 = some (.ireturn) := by decide +kernel
noncomputable abbrev yb_X12_errorsOf (C : yC) : ySt → Option (Option Value × yM) := yrn m_X12_errorsOf C
theorem en_X12_errorsOf (n : Nat) (A : yM) (v0 : Nat) (v1 : Int32) : ycall (n + 1) 169 [.ref v0, .int v1] A = yb_X12_errorsOf (ycall n) (4, [some (.ref v0), some (.int v1), some (.int (0 : Int32)), some (.int (0 : Int32))], [], A) := (ybig_blk 5 _).trans (z_iconst cd_X12_errorsOf_0 ki_0 (p := 1) rfl (zgo rfl (z_istore_n cd_X12_errorsOf_1 (j := 2) rfl rfl (p := 2) rfl (zgo rfl (z_iconst cd_X12_errorsOf_2 ki_0 (p := 3) rfl (zgo rfl (z_istore_n cd_X12_errorsOf_3 (j := 3) rfl rfl (p := 4) rfl (zcut (p := 4) rfl rfl))))))))
theorem bk_X12_errorsOf_4 (C : yC) (A : yM) (v0 : Nat) (v1 : Int32) (v2 : Int32) (v3 : Int32) : yb_X12_errorsOf C (4, [some (.ref v0), some (.int v1), some (.int v2), some (.int v3)], [], A) = ygR A v0 11 0 (fun a1 => yrd A a1 (1 : Int32) (fun x2 => if x2 ≤ v3 then (some (some (.int v2), A)) else (ygR A v0 11 0 (fun a3 => (yi (C 143 [.int v3, .int (0 : Int32)] A)).bind (fun z4 => yrd z4.2 a3 z4.1 (fun x5 => if x5 = v1 then (yb_X12_errorsOf C (4, [some (.ref v0), some (.int v1), some (.int (v2 ||| ((1 : Int32) <<< (v3 &&& 31)))), some (.int (v3 + (1 : Int32)))], [], z4.2)) else (yb_X12_errorsOf C (4, [some (.ref v0), some (.int v1), some (.int (v2 ||| (0 : Int32))), some (.int (v3 + (1 : Int32)))], [], z4.2)))))))) := (ybig_blk 24 _).trans (z_iload_n cd_X12_errorsOf_4 (j := 3) rfl rfl (p := 5) rfl (zgo rfl (z_aload_n cd_X12_errorsOf_5 (j := 0) rfl rfl (p := 6) rfl (zgo rfl (z_getR cd_X12_errorsOf_6 fd_X12_9 (p := 9) rfl (fun _ => (zgo rfl (z_iconst cd_X12_errorsOf_9 ki_1 (p := 10) rfl (zgo rfl (z_iaload cd_X12_errorsOf_10 (p := 11) rfl (fun _ => (zgo rfl (z_ic_ge cd_X12_errorsOf_11 (p := 44) rfl (p2 := 14) rfl (zgo rfl (z_iload_n cd_X12_errorsOf_44 (j := 2) rfl rfl (p := 45) rfl (zgo rfl (z_iret cd_X12_errorsOf_45 rfl)))) (zgo rfl (z_iload_n cd_X12_errorsOf_14 (j := 2) rfl rfl (p := 15) rfl (zgo rfl (z_aload_n cd_X12_errorsOf_15 (j := 0) rfl rfl (p := 16) rfl (zgo rfl (z_getR cd_X12_errorsOf_16 fd_X12_9 (p := 19) rfl (fun _ => (zgo rfl (z_iload_n cd_X12_errorsOf_19 (j := 3) rfl rfl (p := 20) rfl (zgo rfl (z_iconst cd_X12_errorsOf_20 ki_0 (p := 21) rfl (zgo rfl (z_cs1 cd_X12_errorsOf_21 (zs (key := 163) (by decide)) cl_X12_c163 rfl rfl rfl rfl (p := 24) rfl (fun _ => (zgo rfl (z_iaload cd_X12_errorsOf_24 (p := 25) rfl (fun _ => (zgo rfl (z_iload_n cd_X12_errorsOf_25 (j := 1) rfl rfl (p := 26) rfl (zgo rfl (z_ic_ne cd_X12_errorsOf_26 (p := 35) rfl (p2 := 29) rfl (zgo rfl (z_iconst cd_X12_errorsOf_29 ki_1 (p := 30) rfl (zgo rfl (z_iload_n cd_X12_errorsOf_30 (j := 3) rfl rfl (p := 31) rfl (zgo rfl (z_ishl cd_X12_errorsOf_31 (p := 32) rfl (zgo rfl (z_goto cd_X12_errorsOf_32 (p := 36) rfl (zgo rfl (z_ior cd_X12_errorsOf_36 (p := 37) rfl (zgo rfl (z_istore_n cd_X12_errorsOf_37 (j := 2) rfl rfl (p := 38) rfl (zgo rfl (z_iinc cd_X12_errorsOf_38 ki_1 rfl rfl (p := 41) rfl (zgo rfl (z_goto cd_X12_errorsOf_41 (p := 4) rfl (zcut (p := 4) rfl rfl))))))))))))))))) (zgo rfl (z_iconst cd_X12_errorsOf_35 ki_0 (p := 36) rfl (zgo rfl (z_ior cd_X12_errorsOf_36 (p := 37) rfl (zgo rfl (z_istore_n cd_X12_errorsOf_37 (j := 2) rfl rfl (p := 38) rfl (zgo rfl (z_iinc cd_X12_errorsOf_38 ki_1 rfl rfl (p := 41) rfl (zgo rfl (z_goto cd_X12_errorsOf_41 (p := 4) rfl (zcut (p := 4) rfl rfl)))))))))))))))))))))))))))))))))))))))))))))
theorem cd_X12_student_0 : ylk m_X12_student.2.2.2.2.1 0 = some (.aload_n 0) := by decide +kernel
theorem cd_X12_student_1 : ylk m_X12_student.2.2.2.2.1 1 = some (.iload_n 1) := by decide +kernel
theorem cd_X12_student_2 : ylk m_X12_student.2.2.2.2.1 2 = some (.invokevirtual 114) := by decide +kernel
theorem cd_X12_student_5 : ylk m_X12_student.2.2.2.2.1 5 = some (.ifCond .eq 12) := by decide +kernel
theorem cd_X12_student_8 : ylk m_X12_student.2.2.2.2.1 8 = some (.iload_n 2) := by decide +kernel
theorem cd_X12_student_9 : ylk m_X12_student.2.2.2.2.1 9 = some (.iconst 0) := by decide +kernel
theorem cd_X12_student_10 : ylk m_X12_student.2.2.2.2.1 10 = some (.iconst 5) := by decide +kernel
theorem cd_X12_student_11 : ylk m_X12_student.2.2.2.2.1 11 = some (.invokestatic 46) := by decide +kernel
theorem cd_X12_student_14 : ylk m_X12_student.2.2.2.2.1 14 = some (.ifCond .ne 5) := by decide +kernel
theorem cd_X12_student_17 : ylk m_X12_student.2.2.2.2.1 17 = some (.iconst (-1)) := by decide +kernel
theorem cd_X12_student_18 : ylk m_X12_student.2.2.2.2.1 18 = some (.ireturn) := by decide +kernel
theorem cd_X12_student_19 : ylk m_X12_student.2.2.2.2.1 19 = some (.iload_n 2) := by decide +kernel
theorem cd_X12_student_20 : ylk m_X12_student.2.2.2.2.1 20 = some (.tableswitch 52 3 5 #[28, 37, 46]) := by decide +kernel
theorem cd_X12_student_48 : ylk m_X12_student.2.2.2.2.1 48 = some (.aload_n 0) := by decide +kernel
theorem cd_X12_student_49 : ylk m_X12_student.2.2.2.2.1 49 = some (.getfield 9) := by decide +kernel
theorem cd_X12_student_52 : ylk m_X12_student.2.2.2.2.1 52 = some (.iload_n 1) := by decide +kernel
theorem cd_X12_student_53 : ylk m_X12_student.2.2.2.2.1 53 = some (.invokestatic 77) := by decide +kernel
theorem cd_X12_student_56 : ylk m_X12_student.2.2.2.2.1 56 = some (.ireturn) := by decide +kernel
theorem cd_X12_student_57 : ylk m_X12_student.2.2.2.2.1 57 = some (.aload_n 0) := by decide +kernel
theorem cd_X12_student_58 : ylk m_X12_student.2.2.2.2.1 58 = some (.getfield 9) := by decide +kernel
theorem cd_X12_student_61 : ylk m_X12_student.2.2.2.2.1 61 = some (.iload_n 1) := by decide +kernel
theorem cd_X12_student_62 : ylk m_X12_student.2.2.2.2.1 62 = some (.invokestatic 150) := by decide +kernel
theorem cd_X12_student_65 : ylk m_X12_student.2.2.2.2.1 65 = some (.ireturn) := by decide +kernel
theorem cd_X12_student_66 : ylk m_X12_student.2.2.2.2.1 66 = some (.aload_n 0) := by decide +kernel
theorem cd_X12_student_67 : ylk m_X12_student.2.2.2.2.1 67 = some (.iload_n 1) := by decide +kernel
theorem cd_X12_student_68 : ylk m_X12_student.2.2.2.2.1 68 = some (.invokevirtual 153) := by decide +kernel
theorem cd_X12_student_71 : ylk m_X12_student.2.2.2.2.1 71 = some (.ireturn) := by decide +kernel
theorem cd_X12_student_72 : ylk m_X12_student.2.2.2.2.1 72 = some (.aload_n 0) := by decide +kernel
theorem cd_X12_student_73 : ylk m_X12_student.2.2.2.2.1 73 = some (.getfield 9) := by decide +kernel
theorem cd_X12_student_76 : ylk m_X12_student.2.2.2.2.1 76 = some (.iload_n 1) := by decide +kernel
theorem cd_X12_student_77 : ylk m_X12_student.2.2.2.2.1 77 = some (.iload_n 2) := by decide +kernel
theorem cd_X12_student_78 : ylk m_X12_student.2.2.2.2.1 78 = some (.invokestatic 50) := by decide +kernel
theorem cd_X12_student_81 : ylk m_X12_student.2.2.2.2.1 81 = some (.iaload) := by decide +kernel
theorem cd_X12_student_82 : ylk m_X12_student.2.2.2.2.1 82 = some (.ireturn) := by decide +kernel
noncomputable abbrev yb_X12_student (C : yC) : ySt → Option (Option Value × yM) := yrn m_X12_student C
theorem en_X12_student (n : Nat) (A : yM) (v0 : Nat) (v1 : Int32) (v2 : Int32) : ycall (n + 1) 170 [.ref v0, .int v1, .int v2] A = (yi (yvt [(11, 144)] (ycall n) [.ref v0, .int v1] A)).bind (fun z1 => if z1.1 = 0 then (some (some (.int (-1 : Int32)), z1.2)) else ((yi ((ycall n) 138 [.int v2, .int (0 : Int32), .int (5 : Int32)] z1.2)).bind (fun z2 => if z2.1 = 0 then (some (some (.int (-1 : Int32)), z2.2)) else (if v2 = (3 : Int32) then (ygR z2.2 v0 11 0 (fun a9 => (yi ((ycall n) 154 [.ref a9, .int v1] z2.2)).bind (fun z10 => some (some (.int z10.1), z10.2)))) else (if v2 = (4 : Int32) then (ygR z2.2 v0 11 0 (fun a7 => (yi ((ycall n) 156 [.ref a7, .int v1] z2.2)).bind (fun z8 => some (some (.int z8.1), z8.2)))) else (if v2 = (5 : Int32) then ((yi (yvt [(11, 169)] (ycall n) [.ref v0, .int v1] z2.2)).bind (fun z6 => some (some (.int z6.1), z6.2))) else (ygR z2.2 v0 11 0 (fun a3 => (yi ((ycall n) 142 [.int v1, .int v2] z2.2)).bind (fun z4 => yrd z4.2 a3 z4.1 (fun x5 => some (some (.int x5), z4.2))))))))))) := (ybig_blk 19 _).trans (z_aload_n cd_X12_student_0 (j := 0) rfl rfl (p := 1) rfl (zgo rfl (z_iload_n cd_X12_student_1 (j := 1) rfl rfl (p := 2) rfl (zgo rfl (z_cv1 cd_X12_student_2 (zv (key := 342) (by decide)) cl_X12_c342 rfl rfl rfl rfl (p := 5) rfl (fun _ => (zgo rfl (z_if_eq cd_X12_student_5 (p := 17) rfl (p2 := 8) rfl (zgo rfl (z_iconst cd_X12_student_17 ki_m1 (p := 18) rfl (zgo rfl (z_iret cd_X12_student_18 rfl)))) (zgo rfl (z_iload_n cd_X12_student_8 (j := 2) rfl rfl (p := 9) rfl (zgo rfl (z_iconst cd_X12_student_9 ki_0 (p := 10) rfl (zgo rfl (z_iconst cd_X12_student_10 ki_5 (p := 11) rfl (zgo rfl (z_cs1 cd_X12_student_11 (zs (key := 139) (by decide)) cl_X12_c139 rfl rfl rfl rfl (p := 14) rfl (fun _ => (zgo rfl (z_if_ne cd_X12_student_14 (p := 19) rfl (p2 := 17) rfl (zgo rfl (z_iconst cd_X12_student_17 ki_m1 (p := 18) rfl (zgo rfl (z_iret cd_X12_student_18 rfl)))) (zgo rfl (z_iload_n cd_X12_student_19 (j := 2) rfl rfl (p := 20) rfl (zgo rfl (z_sw cd_X12_student_20 (p := 72) rfl (ps := [(3, 48), (4, 57), (5, 66)]) rfl (z_swc ki_3 (zgo rfl (z_aload_n cd_X12_student_48 (j := 0) rfl rfl (p := 49) rfl (zgo rfl (z_getR cd_X12_student_49 fd_X12_9 (p := 52) rfl (fun _ => (zgo rfl (z_iload_n cd_X12_student_52 (j := 1) rfl rfl (p := 53) rfl (zgo rfl (z_cs1 cd_X12_student_53 (zs (key := 232) (by decide)) cl_X12_c232 rfl rfl rfl rfl (p := 56) rfl (fun _ => (zgo rfl (z_iret cd_X12_student_56 rfl)))))))))))) (z_swc ki_4 (zgo rfl (z_aload_n cd_X12_student_57 (j := 0) rfl rfl (p := 58) rfl (zgo rfl (z_getR cd_X12_student_58 fd_X12_9 (p := 61) rfl (fun _ => (zgo rfl (z_iload_n cd_X12_student_61 (j := 1) rfl rfl (p := 62) rfl (zgo rfl (z_cs1 cd_X12_student_62 (zs (key := 451) (by decide)) cl_X12_c451 rfl rfl rfl rfl (p := 65) rfl (fun _ => (zgo rfl (z_iret cd_X12_student_65 rfl)))))))))))) (z_swc ki_5 (zgo rfl (z_aload_n cd_X12_student_66 (j := 0) rfl rfl (p := 67) rfl (zgo rfl (z_iload_n cd_X12_student_67 (j := 1) rfl rfl (p := 68) rfl (zgo rfl (z_cv1 cd_X12_student_68 (zv (key := 459) (by decide)) cl_X12_c459 rfl rfl rfl rfl (p := 71) rfl (fun _ => (zgo rfl (z_iret cd_X12_student_71 rfl))))))))) (z_swn (zgo rfl (z_aload_n cd_X12_student_72 (j := 0) rfl rfl (p := 73) rfl (zgo rfl (z_getR cd_X12_student_73 fd_X12_9 (p := 76) rfl (fun _ => (zgo rfl (z_iload_n cd_X12_student_76 (j := 1) rfl rfl (p := 77) rfl (zgo rfl (z_iload_n cd_X12_student_77 (j := 2) rfl rfl (p := 78) rfl (zgo rfl (z_cs1 cd_X12_student_78 (zs (key := 151) (by decide)) cl_X12_c151 rfl rfl rfl rfl (p := 81) rfl (fun _ => (zgo rfl (z_iaload cd_X12_student_81 (p := 82) rfl (fun _ => (zgo rfl (z_iret cd_X12_student_82 rfl))))))))))))))))))))))))))))))))))))))))))))
theorem cd_X12_error_0 : ylk m_X12_error.2.2.2.2.1 0 = some (.aload_n 0) := by decide +kernel
theorem cd_X12_error_1 : ylk m_X12_error.2.2.2.2.1 1 = some (.iload_n 1) := by decide +kernel
theorem cd_X12_error_2 : ylk m_X12_error.2.2.2.2.1 2 = some (.invokevirtual 118) := by decide +kernel
theorem cd_X12_error_5 : ylk m_X12_error.2.2.2.2.1 5 = some (.ifCond .eq 13) := by decide +kernel
theorem cd_X12_error_8 : ylk m_X12_error.2.2.2.2.1 8 = some (.iload_n 2) := by decide +kernel
theorem cd_X12_error_9 : ylk m_X12_error.2.2.2.2.1 9 = some (.iconst 0) := by decide +kernel
theorem cd_X12_error_10 : ylk m_X12_error.2.2.2.2.1 10 = some (.bipush 7) := by decide +kernel
theorem cd_X12_error_12 : ylk m_X12_error.2.2.2.2.1 12 = some (.invokestatic 46) := by decide +kernel
theorem cd_X12_error_15 : ylk m_X12_error.2.2.2.2.1 15 = some (.ifCond .ne 5) := by decide +kernel
theorem cd_X12_error_18 : ylk m_X12_error.2.2.2.2.1 18 = some (.iconst (-1)) := by decide +kernel
theorem cd_X12_error_19 : ylk m_X12_error.2.2.2.2.1 19 = some (.ireturn) := by decide +kernel
theorem cd_X12_error_20 : ylk m_X12_error.2.2.2.2.1 20 = some (.iload_n 2) := by decide +kernel
theorem cd_X12_error_21 : ylk m_X12_error.2.2.2.2.1 21 = some (.tableswitch 54 5 7 #[27, 36, 45]) := by decide +kernel
theorem cd_X12_error_48 : ylk m_X12_error.2.2.2.2.1 48 = some (.aload_n 0) := by decide +kernel
theorem cd_X12_error_49 : ylk m_X12_error.2.2.2.2.1 49 = some (.getfield 9) := by decide +kernel
theorem cd_X12_error_52 : ylk m_X12_error.2.2.2.2.1 52 = some (.iload_n 1) := by decide +kernel
theorem cd_X12_error_53 : ylk m_X12_error.2.2.2.2.1 53 = some (.invokestatic 63) := by decide +kernel
theorem cd_X12_error_56 : ylk m_X12_error.2.2.2.2.1 56 = some (.ireturn) := by decide +kernel
theorem cd_X12_error_57 : ylk m_X12_error.2.2.2.2.1 57 = some (.aload_n 0) := by decide +kernel
theorem cd_X12_error_58 : ylk m_X12_error.2.2.2.2.1 58 = some (.getfield 9) := by decide +kernel
theorem cd_X12_error_61 : ylk m_X12_error.2.2.2.2.1 61 = some (.iload_n 1) := by decide +kernel
theorem cd_X12_error_62 : ylk m_X12_error.2.2.2.2.1 62 = some (.invokestatic 67) := by decide +kernel
theorem cd_X12_error_65 : ylk m_X12_error.2.2.2.2.1 65 = some (.ireturn) := by decide +kernel
theorem cd_X12_error_66 : ylk m_X12_error.2.2.2.2.1 66 = some (.aload_n 0) := by decide +kernel
theorem cd_X12_error_67 : ylk m_X12_error.2.2.2.2.1 67 = some (.getfield 9) := by decide +kernel
theorem cd_X12_error_70 : ylk m_X12_error.2.2.2.2.1 70 = some (.iload_n 1) := by decide +kernel
theorem cd_X12_error_71 : ylk m_X12_error.2.2.2.2.1 71 = some (.invokestatic 74) := by decide +kernel
theorem cd_X12_error_74 : ylk m_X12_error.2.2.2.2.1 74 = some (.ireturn) := by decide +kernel
theorem cd_X12_error_75 : ylk m_X12_error.2.2.2.2.1 75 = some (.aload_n 0) := by decide +kernel
theorem cd_X12_error_76 : ylk m_X12_error.2.2.2.2.1 76 = some (.getfield 9) := by decide +kernel
theorem cd_X12_error_79 : ylk m_X12_error.2.2.2.2.1 79 = some (.iload_n 1) := by decide +kernel
theorem cd_X12_error_80 : ylk m_X12_error.2.2.2.2.1 80 = some (.iload_n 2) := by decide +kernel
theorem cd_X12_error_81 : ylk m_X12_error.2.2.2.2.1 81 = some (.invokestatic 54) := by decide +kernel
theorem cd_X12_error_84 : ylk m_X12_error.2.2.2.2.1 84 = some (.iaload) := by decide +kernel
theorem cd_X12_error_85 : ylk m_X12_error.2.2.2.2.1 85 = some (.ireturn) := by decide +kernel
noncomputable abbrev yb_X12_error (C : yC) : ySt → Option (Option Value × yM) := yrn m_X12_error C
theorem en_X12_error (n : Nat) (A : yM) (v0 : Nat) (v1 : Int32) (v2 : Int32) : ycall (n + 1) 171 [.ref v0, .int v1, .int v2] A = (yi (yvt [(11, 145)] (ycall n) [.ref v0, .int v1] A)).bind (fun z1 => if z1.1 = 0 then (some (some (.int (-1 : Int32)), z1.2)) else ((yi ((ycall n) 138 [.int v2, .int (0 : Int32), .int (7 : Int32)] z1.2)).bind (fun z2 => if z2.1 = 0 then (some (some (.int (-1 : Int32)), z2.2)) else (if v2 = (5 : Int32) then (ygR z2.2 v0 11 0 (fun a10 => (yi ((ycall n) 151 [.ref a10, .int v1] z2.2)).bind (fun z11 => some (some (.int z11.1), z11.2)))) else (if v2 = (6 : Int32) then (ygR z2.2 v0 11 0 (fun a8 => (yi ((ycall n) 152 [.ref a8, .int v1] z2.2)).bind (fun z9 => some (some (.int z9.1), z9.2)))) else (if v2 = (7 : Int32) then (ygR z2.2 v0 11 0 (fun a6 => (yi ((ycall n) 153 [.ref a6, .int v1] z2.2)).bind (fun z7 => some (some (.int z7.1), z7.2)))) else (ygR z2.2 v0 11 0 (fun a3 => (yi ((ycall n) 143 [.int v1, .int v2] z2.2)).bind (fun z4 => yrd z4.2 a3 z4.1 (fun x5 => some (some (.int x5), z4.2))))))))))) := (ybig_blk 19 _).trans (z_aload_n cd_X12_error_0 (j := 0) rfl rfl (p := 1) rfl (zgo rfl (z_iload_n cd_X12_error_1 (j := 1) rfl rfl (p := 2) rfl (zgo rfl (z_cv1 cd_X12_error_2 (zv (key := 354) (by decide)) cl_X12_c354 rfl rfl rfl rfl (p := 5) rfl (fun _ => (zgo rfl (z_if_eq cd_X12_error_5 (p := 18) rfl (p2 := 8) rfl (zgo rfl (z_iconst cd_X12_error_18 ki_m1 (p := 19) rfl (zgo rfl (z_iret cd_X12_error_19 rfl)))) (zgo rfl (z_iload_n cd_X12_error_8 (j := 2) rfl rfl (p := 9) rfl (zgo rfl (z_iconst cd_X12_error_9 ki_0 (p := 10) rfl (zgo rfl (z_bipush cd_X12_error_10 kb_7 (p := 12) rfl (zgo rfl (z_cs1 cd_X12_error_12 (zs (key := 139) (by decide)) cl_X12_c139 rfl rfl rfl rfl (p := 15) rfl (fun _ => (zgo rfl (z_if_ne cd_X12_error_15 (p := 20) rfl (p2 := 18) rfl (zgo rfl (z_iconst cd_X12_error_18 ki_m1 (p := 19) rfl (zgo rfl (z_iret cd_X12_error_19 rfl)))) (zgo rfl (z_iload_n cd_X12_error_20 (j := 2) rfl rfl (p := 21) rfl (zgo rfl (z_sw cd_X12_error_21 (p := 75) rfl (ps := [(5, 48), (6, 57), (7, 66)]) rfl (z_swc ki_5 (zgo rfl (z_aload_n cd_X12_error_48 (j := 0) rfl rfl (p := 49) rfl (zgo rfl (z_getR cd_X12_error_49 fd_X12_9 (p := 52) rfl (fun _ => (zgo rfl (z_iload_n cd_X12_error_52 (j := 1) rfl rfl (p := 53) rfl (zgo rfl (z_cs1 cd_X12_error_53 (zs (key := 190) (by decide)) cl_X12_c190 rfl rfl rfl rfl (p := 56) rfl (fun _ => (zgo rfl (z_iret cd_X12_error_56 rfl)))))))))))) (z_swc ki_6 (zgo rfl (z_aload_n cd_X12_error_57 (j := 0) rfl rfl (p := 58) rfl (zgo rfl (z_getR cd_X12_error_58 fd_X12_9 (p := 61) rfl (fun _ => (zgo rfl (z_iload_n cd_X12_error_61 (j := 1) rfl rfl (p := 62) rfl (zgo rfl (z_cs1 cd_X12_error_62 (zs (key := 202) (by decide)) cl_X12_c202 rfl rfl rfl rfl (p := 65) rfl (fun _ => (zgo rfl (z_iret cd_X12_error_65 rfl)))))))))))) (z_swc ki_7 (zgo rfl (z_aload_n cd_X12_error_66 (j := 0) rfl rfl (p := 67) rfl (zgo rfl (z_getR cd_X12_error_67 fd_X12_9 (p := 70) rfl (fun _ => (zgo rfl (z_iload_n cd_X12_error_70 (j := 1) rfl rfl (p := 71) rfl (zgo rfl (z_cs1 cd_X12_error_71 (zs (key := 223) (by decide)) cl_X12_c223 rfl rfl rfl rfl (p := 74) rfl (fun _ => (zgo rfl (z_iret cd_X12_error_74 rfl)))))))))))) (z_swn (zgo rfl (z_aload_n cd_X12_error_75 (j := 0) rfl rfl (p := 76) rfl (zgo rfl (z_getR cd_X12_error_76 fd_X12_9 (p := 79) rfl (fun _ => (zgo rfl (z_iload_n cd_X12_error_79 (j := 1) rfl rfl (p := 80) rfl (zgo rfl (z_iload_n cd_X12_error_80 (j := 2) rfl rfl (p := 81) rfl (zgo rfl (z_cs1 cd_X12_error_81 (zs (key := 163) (by decide)) cl_X12_c163 rfl rfl rfl rfl (p := 84) rfl (fun _ => (zgo rfl (z_iaload cd_X12_error_84 (p := 85) rfl (fun _ => (zgo rfl (z_iret cd_X12_error_85 rfl))))))))))))))))))))))))))))))))))))))))))))
theorem cd_X12_comes_0 : ylk m_X12_comes.2.2.2.2.1 0 = some (.aload_n 0) := by decide +kernel
theorem cd_X12_comes_1 : ylk m_X12_comes.2.2.2.2.1 1 = some (.iload_n 1) := by decide +kernel
theorem cd_X12_comes_2 : ylk m_X12_comes.2.2.2.2.1 2 = some (.invokevirtual 157) := by decide +kernel
theorem cd_X12_comes_5 : ylk m_X12_comes.2.2.2.2.1 5 = some (.istore_n 2) := by decide +kernel
theorem cd_X12_comes_6 : ylk m_X12_comes.2.2.2.2.1 6 = some (.iload_n 2) := by decide +kernel
theorem cd_X12_comes_7 : ylk m_X12_comes.2.2.2.2.1 7 = some (.ifCond .eq 5) := by decide +kernel
theorem cd_X12_comes_10 : ylk m_X12_comes.2.2.2.2.1 10 = some (.iload_n 2) := by decide +kernel
theorem cd_X12_comes_11 : ylk m_X12_comes.2.2.2.2.1 11 = some (.ireturn) := by decide +kernel
theorem cd_X12_comes_12 : ylk m_X12_comes.2.2.2.2.1 12 = some (.aload_n 0) := by decide +kernel
theorem cd_X12_comes_13 : ylk m_X12_comes.2.2.2.2.1 13 = some (.getfield 9) := by decide +kernel
theorem cd_X12_comes_16 : ylk m_X12_comes.2.2.2.2.1 16 = some (.iconst 0) := by decide +kernel
theorem cd_X12_comes_17 : ylk m_X12_comes.2.2.2.2.1 17 = some (.iaload) := by decide +kernel
theorem cd_X12_comes_18 : ylk m_X12_comes.2.2.2.2.1 18 = some (.bipush 6) := by decide +kernel
theorem cd_X12_comes_20 : ylk m_X12_comes.2.2.2.2.1 20 = some (.if_icmp .ne 6) := by decide +kernel
theorem cd_X12_comes_23 : ylk m_X12_comes.2.2.2.2.1 23 = some (.bipush (-2)) := by decide +kernel
theorem cd_X12_comes_25 : ylk m_X12_comes.2.2.2.2.1 25 = some (.ireturn) := by decide +kernel
theorem cd_X12_comes_26 : ylk m_X12_comes.2.2.2.2.1 26 = some (.aload_n 0) := by decide +kernel
theorem cd_X12_comes_27 : ylk m_X12_comes.2.2.2.2.1 27 = some (.aload_n 0) := by decide +kernel
theorem cd_X12_comes_28 : ylk m_X12_comes.2.2.2.2.1 28 = some (.getfield 31) := by decide +kernel
theorem cd_X12_comes_31 : ylk m_X12_comes.2.2.2.2.1 31 = some (.iload_n 1) := by decide +kernel
theorem cd_X12_comes_32 : ylk m_X12_comes.2.2.2.2.1 32 = some (.iaload) := by decide +kernel
theorem cd_X12_comes_33 : ylk m_X12_comes.2.2.2.2.1 33 = some (.aload_n 0) := by decide +kernel
theorem cd_X12_comes_34 : ylk m_X12_comes.2.2.2.2.1 34 = some (.getfield 34) := by decide +kernel
theorem cd_X12_comes_37 : ylk m_X12_comes.2.2.2.2.1 37 = some (.iload_n 1) := by decide +kernel
theorem cd_X12_comes_38 : ylk m_X12_comes.2.2.2.2.1 38 = some (.iaload) := by decide +kernel
theorem cd_X12_comes_39 : ylk m_X12_comes.2.2.2.2.1 39 = some (.invokevirtual 110) := by decide +kernel
theorem cd_X12_comes_42 : ylk m_X12_comes.2.2.2.2.1 42 = some (.aload_n 0) := by decide +kernel
theorem cd_X12_comes_43 : ylk m_X12_comes.2.2.2.2.1 43 = some (.getfield 9) := by decide +kernel
theorem cd_X12_comes_46 : ylk m_X12_comes.2.2.2.2.1 46 = some (.iconst 0) := by decide +kernel
theorem cd_X12_comes_47 : ylk m_X12_comes.2.2.2.2.1 47 = some (.iaload) := by decide +kernel
theorem cd_X12_comes_48 : ylk m_X12_comes.2.2.2.2.1 48 = some (.iconst 1) := by decide +kernel
theorem cd_X12_comes_49 : ylk m_X12_comes.2.2.2.2.1 49 = some (.isub) := by decide +kernel
theorem cd_X12_comes_50 : ylk m_X12_comes.2.2.2.2.1 50 = some (.ireturn) := by decide +kernel
noncomputable abbrev yb_X12_comes (C : yC) : ySt → Option (Option Value × yM) := yrn m_X12_comes C
theorem en_X12_comes (n : Nat) (A : yM) (v0 : Nat) (v1 : Int32) : ycall (n + 1) 172 [.ref v0, .int v1] A = (yi (yvt [(11, 231)] (ycall n) [.ref v0, .int v1] A)).bind (fun z1 => if z1.1 = 0 then (ygR z1.2 v0 11 0 (fun a2 => yrd z1.2 a2 (0 : Int32) (fun x3 => if x3 = (6 : Int32) then (some (some (.int (-2 : Int32)), z1.2)) else (ygR z1.2 v0 11 12 (fun a4 => yrd z1.2 a4 v1 (fun x5 => ygR z1.2 v0 11 13 (fun a6 => yrd z1.2 a6 v1 (fun x7 => (yv (yvt [(11, 166)] (ycall n) [.ref v0, .int x5, .int x7] z1.2)).bind (fun A8 => ygR A8 v0 11 0 (fun a9 => yrd A8 a9 (0 : Int32) (fun x10 => some (some (.int (x10 - (1 : Int32))), A8)))))))))))) else (some (some (.int z1.1), z1.2))) := (ybig_blk 30 _).trans (z_aload_n cd_X12_comes_0 (j := 0) rfl rfl (p := 1) rfl (zgo rfl (z_iload_n cd_X12_comes_1 (j := 1) rfl rfl (p := 2) rfl (zgo rfl (z_cv1 cd_X12_comes_2 (zv (key := 471) (by decide)) cl_X12_c471 rfl rfl rfl rfl (p := 5) rfl (fun _ => (zgo rfl (z_istore_n cd_X12_comes_5 (j := 2) rfl rfl (p := 6) rfl (zgo rfl (z_iload_n cd_X12_comes_6 (j := 2) rfl rfl (p := 7) rfl (zgo rfl (z_if_eq cd_X12_comes_7 (p := 12) rfl (p2 := 10) rfl (zgo rfl (z_aload_n cd_X12_comes_12 (j := 0) rfl rfl (p := 13) rfl (zgo rfl (z_getR cd_X12_comes_13 fd_X12_9 (p := 16) rfl (fun _ => (zgo rfl (z_iconst cd_X12_comes_16 ki_0 (p := 17) rfl (zgo rfl (z_iaload cd_X12_comes_17 (p := 18) rfl (fun _ => (zgo rfl (z_bipush cd_X12_comes_18 kb_6 (p := 20) rfl (zgo rfl (z_ic_ne cd_X12_comes_20 (p := 26) rfl (p2 := 23) rfl (zgo rfl (z_bipush cd_X12_comes_23 kb_m2 (p := 25) rfl (zgo rfl (z_iret cd_X12_comes_25 rfl)))) (zgo rfl (z_aload_n cd_X12_comes_26 (j := 0) rfl rfl (p := 27) rfl (zgo rfl (z_aload_n cd_X12_comes_27 (j := 0) rfl rfl (p := 28) rfl (zgo rfl (z_getR cd_X12_comes_28 fd_X12_31 (p := 31) rfl (fun _ => (zgo rfl (z_iload_n cd_X12_comes_31 (j := 1) rfl rfl (p := 32) rfl (zgo rfl (z_iaload cd_X12_comes_32 (p := 33) rfl (fun _ => (zgo rfl (z_aload_n cd_X12_comes_33 (j := 0) rfl rfl (p := 34) rfl (zgo rfl (z_getR cd_X12_comes_34 fd_X12_34 (p := 37) rfl (fun _ => (zgo rfl (z_iload_n cd_X12_comes_37 (j := 1) rfl rfl (p := 38) rfl (zgo rfl (z_iaload cd_X12_comes_38 (p := 39) rfl (fun _ => (zgo rfl (z_cv0 cd_X12_comes_39 (zv (key := 330) (by decide)) cl_X12_c330 rfl rfl rfl rfl (p := 42) rfl (fun _ => (zgo rfl (z_aload_n cd_X12_comes_42 (j := 0) rfl rfl (p := 43) rfl (zgo rfl (z_getR cd_X12_comes_43 fd_X12_9 (p := 46) rfl (fun _ => (zgo rfl (z_iconst cd_X12_comes_46 ki_0 (p := 47) rfl (zgo rfl (z_iaload cd_X12_comes_47 (p := 48) rfl (fun _ => (zgo rfl (z_iconst cd_X12_comes_48 ki_1 (p := 49) rfl (zgo rfl (z_isub cd_X12_comes_49 (p := 50) rfl (zgo rfl (z_iret cd_X12_comes_50 rfl))))))))))))))))))))))))))))))))))))))))))))))))))))))) (zgo rfl (z_iload_n cd_X12_comes_10 (j := 2) rfl rfl (p := 11) rfl (zgo rfl (z_iret cd_X12_comes_11 rfl))))))))))))))))
theorem cd_X12_errs_0 : ylk m_X12_errs.2.2.2.2.1 0 = some (.aload_n 0) := by decide +kernel
theorem cd_X12_errs_1 : ylk m_X12_errs.2.2.2.2.1 1 = some (.iload_n 1) := by decide +kernel
theorem cd_X12_errs_2 : ylk m_X12_errs.2.2.2.2.1 2 = some (.invokevirtual 114) := by decide +kernel
theorem cd_X12_errs_5 : ylk m_X12_errs.2.2.2.2.1 5 = some (.ifCond .eq 38) := by decide +kernel
theorem cd_X12_errs_8 : ylk m_X12_errs.2.2.2.2.1 8 = some (.iload_n 2) := by decide +kernel
theorem cd_X12_errs_9 : ylk m_X12_errs.2.2.2.2.1 9 = some (.iconst 0) := by decide +kernel
theorem cd_X12_errs_10 : ylk m_X12_errs.2.2.2.2.1 10 = some (.iconst 5) := by decide +kernel
theorem cd_X12_errs_11 : ylk m_X12_errs.2.2.2.2.1 11 = some (.invokestatic 46) := by decide +kernel
theorem cd_X12_errs_14 : ylk m_X12_errs.2.2.2.2.1 14 = some (.ifCond .eq 29) := by decide +kernel
theorem cd_X12_errs_17 : ylk m_X12_errs.2.2.2.2.1 17 = some (.iload_n 3) := by decide +kernel
theorem cd_X12_errs_18 : ylk m_X12_errs.2.2.2.2.1 18 = some (.iconst 0) := by decide +kernel
theorem cd_X12_errs_19 : ylk m_X12_errs.2.2.2.2.1 19 = some (.bipush 99) := by decide +kernel
theorem cd_X12_errs_21 : ylk m_X12_errs.2.2.2.2.1 21 = some (.invokestatic 46) := by decide +kernel
theorem cd_X12_errs_24 : ylk m_X12_errs.2.2.2.2.1 24 = some (.ifCond .eq 19) := by decide +kernel
theorem cd_X12_errs_27 : ylk m_X12_errs.2.2.2.2.1 27 = some (.iload 4) := by decide +kernel
theorem cd_X12_errs_29 : ylk m_X12_errs.2.2.2.2.1 29 = some (.bipush 99) := by decide +kernel
theorem cd_X12_errs_31 : ylk m_X12_errs.2.2.2.2.1 31 = some (.if_icmp .eq 14) := by decide +kernel
theorem cd_X12_errs_34 : ylk m_X12_errs.2.2.2.2.1 34 = some (.aload_n 0) := by decide +kernel
theorem cd_X12_errs_35 : ylk m_X12_errs.2.2.2.2.1 35 = some (.iload 4) := by decide +kernel
theorem cd_X12_errs_37 : ylk m_X12_errs.2.2.2.2.1 37 = some (.invokevirtual 118) := by decide +kernel
theorem cd_X12_errs_40 : ylk m_X12_errs.2.2.2.2.1 40 = some (.ifCond .ne 5) := by decide +kernel
theorem cd_X12_errs_43 : ylk m_X12_errs.2.2.2.2.1 43 = some (.iconst (-1)) := by decide +kernel
theorem cd_X12_errs_44 : ylk m_X12_errs.2.2.2.2.1 44 = some (.ireturn) := by decide +kernel
theorem cd_X12_errs_45 : ylk m_X12_errs.2.2.2.2.1 45 = some (.aload_n 0) := by decide +kernel
theorem cd_X12_errs_46 : ylk m_X12_errs.2.2.2.2.1 46 = some (.getfield 9) := by decide +kernel
theorem cd_X12_errs_49 : ylk m_X12_errs.2.2.2.2.1 49 = some (.iload_n 1) := by decide +kernel
theorem cd_X12_errs_50 : ylk m_X12_errs.2.2.2.2.1 50 = some (.invokestatic 80) := by decide +kernel
theorem cd_X12_errs_53 : ylk m_X12_errs.2.2.2.2.1 53 = some (.ifCond .ne 6) := by decide +kernel
theorem cd_X12_errs_56 : ylk m_X12_errs.2.2.2.2.1 56 = some (.bipush (-3)) := by decide +kernel
theorem cd_X12_errs_58 : ylk m_X12_errs.2.2.2.2.1 58 = some (.ireturn) := by decide +kernel
theorem cd_X12_errs_59 : ylk m_X12_errs.2.2.2.2.1 59 = some (.aload_n 0) := by decide +kernel
theorem cd_X12_errs_60 : ylk m_X12_errs.2.2.2.2.1 60 = some (.getfield 9) := by decide +kernel
theorem cd_X12_errs_63 : ylk m_X12_errs.2.2.2.2.1 63 = some (.iconst 1) := by decide +kernel
theorem cd_X12_errs_64 : ylk m_X12_errs.2.2.2.2.1 64 = some (.iaload) := by decide +kernel
theorem cd_X12_errs_65 : ylk m_X12_errs.2.2.2.2.1 65 = some (.bipush 12) := by decide +kernel
theorem cd_X12_errs_67 : ylk m_X12_errs.2.2.2.2.1 67 = some (.if_icmp .ne 6) := by decide +kernel
theorem cd_X12_errs_70 : ylk m_X12_errs.2.2.2.2.1 70 = some (.bipush (-2)) := by decide +kernel
theorem cd_X12_errs_72 : ylk m_X12_errs.2.2.2.2.1 72 = some (.ireturn) := by decide +kernel
theorem cd_X12_errs_73 : ylk m_X12_errs.2.2.2.2.1 73 = some (.aload_n 0) := by decide +kernel
theorem cd_X12_errs_74 : ylk m_X12_errs.2.2.2.2.1 74 = some (.getfield 9) := by decide +kernel
theorem cd_X12_errs_77 : ylk m_X12_errs.2.2.2.2.1 77 = some (.iload_n 1) := by decide +kernel
theorem cd_X12_errs_78 : ylk m_X12_errs.2.2.2.2.1 78 = some (.iload_n 2) := by decide +kernel
theorem cd_X12_errs_79 : ylk m_X12_errs.2.2.2.2.1 79 = some (.iload_n 3) := by decide +kernel
theorem cd_X12_errs_80 : ylk m_X12_errs.2.2.2.2.1 80 = some (.iload 4) := by decide +kernel
theorem cd_X12_errs_82 : ylk m_X12_errs.2.2.2.2.1 82 = some (.invokestatic 121) := by decide +kernel
theorem cd_X12_errs_85 : ylk m_X12_errs.2.2.2.2.1 85 = some (.aload_n 0) := by decide +kernel
theorem cd_X12_errs_86 : ylk m_X12_errs.2.2.2.2.1 86 = some (.getfield 9) := by decide +kernel
theorem cd_X12_errs_89 : ylk m_X12_errs.2.2.2.2.1 89 = some (.iconst 1) := by decide +kernel
theorem cd_X12_errs_90 : ylk m_X12_errs.2.2.2.2.1 90 = some (.iaload) := by decide +kernel
theorem cd_X12_errs_91 : ylk m_X12_errs.2.2.2.2.1 91 = some (.iconst 1) := by decide +kernel
theorem cd_X12_errs_92 : ylk m_X12_errs.2.2.2.2.1 92 = some (.isub) := by decide +kernel
theorem cd_X12_errs_93 : ylk m_X12_errs.2.2.2.2.1 93 = some (.ireturn) := by decide +kernel
noncomputable abbrev yb_X12_errs (C : yC) : ySt → Option (Option Value × yM) := yrn m_X12_errs C
theorem en_X12_errs (n : Nat) (A : yM) (v0 : Nat) (v1 : Int32) (v2 : Int32) (v3 : Int32) (v4 : Int32) : ycall (n + 1) 173 [.ref v0, .int v1, .int v2, .int v3, .int v4] A = (yi (yvt [(11, 144)] (ycall n) [.ref v0, .int v1] A)).bind (fun z1 => if z1.1 = 0 then (some (some (.int (-1 : Int32)), z1.2)) else ((yi ((ycall n) 138 [.int v2, .int (0 : Int32), .int (5 : Int32)] z1.2)).bind (fun z2 => if z2.1 = 0 then (some (some (.int (-1 : Int32)), z2.2)) else ((yi ((ycall n) 138 [.int v3, .int (0 : Int32), .int (99 : Int32)] z2.2)).bind (fun z3 => if z3.1 = 0 then (some (some (.int (-1 : Int32)), z3.2)) else (if v4 = (99 : Int32) then (yb_X12_errs (ycall n) (45, [some (.ref v0), some (.int v1), some (.int v2), some (.int v3), some (.int v4)], [], z3.2)) else ((yi (yvt [(11, 145)] (ycall n) [.ref v0, .int v4] z3.2)).bind (fun z4 => if z4.1 = 0 then (some (some (.int (-1 : Int32)), z4.2)) else (yb_X12_errs (ycall n) (45, [some (.ref v0), some (.int v1), some (.int v2), some (.int v3), some (.int v4)], [], z4.2)))))))))) := (ybig_blk 24 _).trans (z_aload_n cd_X12_errs_0 (j := 0) rfl rfl (p := 1) rfl (zgo rfl (z_iload_n cd_X12_errs_1 (j := 1) rfl rfl (p := 2) rfl (zgo rfl (z_cv1 cd_X12_errs_2 (zv (key := 342) (by decide)) cl_X12_c342 rfl rfl rfl rfl (p := 5) rfl (fun _ => (zgo rfl (z_if_eq cd_X12_errs_5 (p := 43) rfl (p2 := 8) rfl (zgo rfl (z_iconst cd_X12_errs_43 ki_m1 (p := 44) rfl (zgo rfl (z_iret cd_X12_errs_44 rfl)))) (zgo rfl (z_iload_n cd_X12_errs_8 (j := 2) rfl rfl (p := 9) rfl (zgo rfl (z_iconst cd_X12_errs_9 ki_0 (p := 10) rfl (zgo rfl (z_iconst cd_X12_errs_10 ki_5 (p := 11) rfl (zgo rfl (z_cs1 cd_X12_errs_11 (zs (key := 139) (by decide)) cl_X12_c139 rfl rfl rfl rfl (p := 14) rfl (fun _ => (zgo rfl (z_if_eq cd_X12_errs_14 (p := 43) rfl (p2 := 17) rfl (zgo rfl (z_iconst cd_X12_errs_43 ki_m1 (p := 44) rfl (zgo rfl (z_iret cd_X12_errs_44 rfl)))) (zgo rfl (z_iload_n cd_X12_errs_17 (j := 3) rfl rfl (p := 18) rfl (zgo rfl (z_iconst cd_X12_errs_18 ki_0 (p := 19) rfl (zgo rfl (z_bipush cd_X12_errs_19 kb_99 (p := 21) rfl (zgo rfl (z_cs1 cd_X12_errs_21 (zs (key := 139) (by decide)) cl_X12_c139 rfl rfl rfl rfl (p := 24) rfl (fun _ => (zgo rfl (z_if_eq cd_X12_errs_24 (p := 43) rfl (p2 := 27) rfl (zgo rfl (z_iconst cd_X12_errs_43 ki_m1 (p := 44) rfl (zgo rfl (z_iret cd_X12_errs_44 rfl)))) (zgo rfl (z_iload cd_X12_errs_27 rfl (p := 29) rfl (zgo rfl (z_bipush cd_X12_errs_29 kb_99 (p := 31) rfl (zgo rfl (z_ic_eq cd_X12_errs_31 (p := 45) rfl (p2 := 34) rfl (zcut (p := 45) rfl rfl) (zgo rfl (z_aload_n cd_X12_errs_34 (j := 0) rfl rfl (p := 35) rfl (zgo rfl (z_iload cd_X12_errs_35 rfl (p := 37) rfl (zgo rfl (z_cv1 cd_X12_errs_37 (zv (key := 354) (by decide)) cl_X12_c354 rfl rfl rfl rfl (p := 40) rfl (fun _ => (zgo rfl (z_if_ne cd_X12_errs_40 (p := 45) rfl (p2 := 43) rfl (zgo rfl (z_iconst cd_X12_errs_43 ki_m1 (p := 44) rfl (zgo rfl (z_iret cd_X12_errs_44 rfl)))) (zcut (p := 45) rfl rfl))))))))))))))))))))))))))))))))))))))))))))))
theorem bk_X12_errs_45 (C : yC) (A : yM) (v0 : Nat) (v1 : Int32) (v2 : Int32) (v3 : Int32) (v4 : Int32) : yb_X12_errs C (45, [some (.ref v0), some (.int v1), some (.int v2), some (.int v3), some (.int v4)], [], A) = ygR A v0 11 0 (fun a1 => (yi (C 146 [.ref a1, .int v1] A)).bind (fun z2 => if z2.1 = 0 then (some (some (.int (-3 : Int32)), z2.2)) else (ygR z2.2 v0 11 0 (fun a3 => yrd z2.2 a3 (1 : Int32) (fun x4 => if x4 = (12 : Int32) then (some (some (.int (-2 : Int32)), z2.2)) else (ygR z2.2 v0 11 0 (fun a5 => (yv (C 160 [.ref a5, .int v1, .int v2, .int v3, .int v4] z2.2)).bind (fun A6 => ygR A6 v0 11 0 (fun a7 => yrd A6 a7 (1 : Int32) (fun x8 => some (some (.int (x8 - (1 : Int32))), A6))))))))))) := (ybig_blk 26 _).trans (z_aload_n cd_X12_errs_45 (j := 0) rfl rfl (p := 46) rfl (zgo rfl (z_getR cd_X12_errs_46 fd_X12_9 (p := 49) rfl (fun _ => (zgo rfl (z_iload_n cd_X12_errs_49 (j := 1) rfl rfl (p := 50) rfl (zgo rfl (z_cs1 cd_X12_errs_50 (zs (key := 241) (by decide)) cl_X12_c241 rfl rfl rfl rfl (p := 53) rfl (fun _ => (zgo rfl (z_if_ne cd_X12_errs_53 (p := 59) rfl (p2 := 56) rfl (zgo rfl (z_bipush cd_X12_errs_56 kb_m3 (p := 58) rfl (zgo rfl (z_iret cd_X12_errs_58 rfl)))) (zgo rfl (z_aload_n cd_X12_errs_59 (j := 0) rfl rfl (p := 60) rfl (zgo rfl (z_getR cd_X12_errs_60 fd_X12_9 (p := 63) rfl (fun _ => (zgo rfl (z_iconst cd_X12_errs_63 ki_1 (p := 64) rfl (zgo rfl (z_iaload cd_X12_errs_64 (p := 65) rfl (fun _ => (zgo rfl (z_bipush cd_X12_errs_65 kb_12 (p := 67) rfl (zgo rfl (z_ic_ne cd_X12_errs_67 (p := 73) rfl (p2 := 70) rfl (zgo rfl (z_bipush cd_X12_errs_70 kb_m2 (p := 72) rfl (zgo rfl (z_iret cd_X12_errs_72 rfl)))) (zgo rfl (z_aload_n cd_X12_errs_73 (j := 0) rfl rfl (p := 74) rfl (zgo rfl (z_getR cd_X12_errs_74 fd_X12_9 (p := 77) rfl (fun _ => (zgo rfl (z_iload_n cd_X12_errs_77 (j := 1) rfl rfl (p := 78) rfl (zgo rfl (z_iload_n cd_X12_errs_78 (j := 2) rfl rfl (p := 79) rfl (zgo rfl (z_iload_n cd_X12_errs_79 (j := 3) rfl rfl (p := 80) rfl (zgo rfl (z_iload cd_X12_errs_80 rfl (p := 82) rfl (zgo rfl (z_cs0 cd_X12_errs_82 (zs (key := 364) (by decide)) cl_X12_c364 rfl rfl rfl rfl (p := 85) rfl (fun _ => (zgo rfl (z_aload_n cd_X12_errs_85 (j := 0) rfl rfl (p := 86) rfl (zgo rfl (z_getR cd_X12_errs_86 fd_X12_9 (p := 89) rfl (fun _ => (zgo rfl (z_iconst cd_X12_errs_89 ki_1 (p := 90) rfl (zgo rfl (z_iaload cd_X12_errs_90 (p := 91) rfl (fun _ => (zgo rfl (z_iconst cd_X12_errs_91 ki_1 (p := 92) rfl (zgo rfl (z_isub cd_X12_errs_92 (p := 93) rfl (zgo rfl (z_iret cd_X12_errs_93 rfl)))))))))))))))))))))))))))))))))))))))))))))))))))))))))
theorem cd_X12_corrects_0 : ylk m_X12_corrects.2.2.2.2.1 0 = some (.aload_n 0) := by decide +kernel
theorem cd_X12_corrects_1 : ylk m_X12_corrects.2.2.2.2.1 1 = some (.iload_n 1) := by decide +kernel
theorem cd_X12_corrects_2 : ylk m_X12_corrects.2.2.2.2.1 2 = some (.invokevirtual 114) := by decide +kernel
theorem cd_X12_corrects_5 : ylk m_X12_corrects.2.2.2.2.1 5 = some (.ifCond .eq 11) := by decide +kernel
theorem cd_X12_corrects_8 : ylk m_X12_corrects.2.2.2.2.1 8 = some (.aload_n 0) := by decide +kernel
theorem cd_X12_corrects_9 : ylk m_X12_corrects.2.2.2.2.1 9 = some (.iload_n 2) := by decide +kernel
theorem cd_X12_corrects_10 : ylk m_X12_corrects.2.2.2.2.1 10 = some (.invokevirtual 118) := by decide +kernel
theorem cd_X12_corrects_13 : ylk m_X12_corrects.2.2.2.2.1 13 = some (.ifCond .ne 5) := by decide +kernel
theorem cd_X12_corrects_16 : ylk m_X12_corrects.2.2.2.2.1 16 = some (.iconst (-1)) := by decide +kernel
theorem cd_X12_corrects_17 : ylk m_X12_corrects.2.2.2.2.1 17 = some (.ireturn) := by decide +kernel
theorem cd_X12_corrects_18 : ylk m_X12_corrects.2.2.2.2.1 18 = some (.aload_n 0) := by decide +kernel
theorem cd_X12_corrects_19 : ylk m_X12_corrects.2.2.2.2.1 19 = some (.iload_n 1) := by decide +kernel
theorem cd_X12_corrects_20 : ylk m_X12_corrects.2.2.2.2.1 20 = some (.iload_n 2) := by decide +kernel
theorem cd_X12_corrects_21 : ylk m_X12_corrects.2.2.2.2.1 21 = some (.invokevirtual 125) := by decide +kernel
theorem cd_X12_corrects_24 : ylk m_X12_corrects.2.2.2.2.1 24 = some (.ifCond .ne 6) := by decide +kernel
theorem cd_X12_corrects_27 : ylk m_X12_corrects.2.2.2.2.1 27 = some (.bipush (-3)) := by decide +kernel
theorem cd_X12_corrects_29 : ylk m_X12_corrects.2.2.2.2.1 29 = some (.ireturn) := by decide +kernel
theorem cd_X12_corrects_30 : ylk m_X12_corrects.2.2.2.2.1 30 = some (.aload_n 0) := by decide +kernel
theorem cd_X12_corrects_31 : ylk m_X12_corrects.2.2.2.2.1 31 = some (.getfield 9) := by decide +kernel
theorem cd_X12_corrects_34 : ylk m_X12_corrects.2.2.2.2.1 34 = some (.iload_n 1) := by decide +kernel
theorem cd_X12_corrects_35 : ylk m_X12_corrects.2.2.2.2.1 35 = some (.iload_n 2) := by decide +kernel
theorem cd_X12_corrects_36 : ylk m_X12_corrects.2.2.2.2.1 36 = some (.invokestatic 128) := by decide +kernel
theorem cd_X12_corrects_39 : ylk m_X12_corrects.2.2.2.2.1 39 = some (.aload_n 0) := by decide +kernel
theorem cd_X12_corrects_40 : ylk m_X12_corrects.2.2.2.2.1 40 = some (.getfield 9) := by decide +kernel
theorem cd_X12_corrects_43 : ylk m_X12_corrects.2.2.2.2.1 43 = some (.iload_n 2) := by decide +kernel
theorem cd_X12_corrects_44 : ylk m_X12_corrects.2.2.2.2.1 44 = some (.iconst 2) := by decide +kernel
theorem cd_X12_corrects_45 : ylk m_X12_corrects.2.2.2.2.1 45 = some (.invokestatic 54) := by decide +kernel
theorem cd_X12_corrects_48 : ylk m_X12_corrects.2.2.2.2.1 48 = some (.iaload) := by decide +kernel
theorem cd_X12_corrects_49 : ylk m_X12_corrects.2.2.2.2.1 49 = some (.ireturn) := by decide +kernel
noncomputable abbrev yb_X12_corrects (C : yC) : ySt → Option (Option Value × yM) := yrn m_X12_corrects C
theorem en_X12_corrects (n : Nat) (A : yM) (v0 : Nat) (v1 : Int32) (v2 : Int32) : ycall (n + 1) 174 [.ref v0, .int v1, .int v2] A = (yi (yvt [(11, 144)] (ycall n) [.ref v0, .int v1] A)).bind (fun z1 => if z1.1 = 0 then (some (some (.int (-1 : Int32)), z1.2)) else ((yi (yvt [(11, 145)] (ycall n) [.ref v0, .int v2] z1.2)).bind (fun z2 => if z2.1 = 0 then (some (some (.int (-1 : Int32)), z2.2)) else ((yi (yvt [(11, 162)] (ycall n) [.ref v0, .int v1, .int v2] z2.2)).bind (fun z3 => if z3.1 = 0 then (some (some (.int (-3 : Int32)), z3.2)) else (ygR z3.2 v0 11 0 (fun a4 => (yv ((ycall n) 161 [.ref a4, .int v1, .int v2] z3.2)).bind (fun A5 => ygR A5 v0 11 0 (fun a6 => (yi ((ycall n) 143 [.int v2, .int (2 : Int32)] A5)).bind (fun z7 => yrd z7.2 a6 z7.1 (fun x8 => some (some (.int x8), z7.2)))))))))))) := (ybig_blk 26 _).trans (z_aload_n cd_X12_corrects_0 (j := 0) rfl rfl (p := 1) rfl (zgo rfl (z_iload_n cd_X12_corrects_1 (j := 1) rfl rfl (p := 2) rfl (zgo rfl (z_cv1 cd_X12_corrects_2 (zv (key := 342) (by decide)) cl_X12_c342 rfl rfl rfl rfl (p := 5) rfl (fun _ => (zgo rfl (z_if_eq cd_X12_corrects_5 (p := 16) rfl (p2 := 8) rfl (zgo rfl (z_iconst cd_X12_corrects_16 ki_m1 (p := 17) rfl (zgo rfl (z_iret cd_X12_corrects_17 rfl)))) (zgo rfl (z_aload_n cd_X12_corrects_8 (j := 0) rfl rfl (p := 9) rfl (zgo rfl (z_iload_n cd_X12_corrects_9 (j := 2) rfl rfl (p := 10) rfl (zgo rfl (z_cv1 cd_X12_corrects_10 (zv (key := 354) (by decide)) cl_X12_c354 rfl rfl rfl rfl (p := 13) rfl (fun _ => (zgo rfl (z_if_ne cd_X12_corrects_13 (p := 18) rfl (p2 := 16) rfl (zgo rfl (z_iconst cd_X12_corrects_16 ki_m1 (p := 17) rfl (zgo rfl (z_iret cd_X12_corrects_17 rfl)))) (zgo rfl (z_aload_n cd_X12_corrects_18 (j := 0) rfl rfl (p := 19) rfl (zgo rfl (z_iload_n cd_X12_corrects_19 (j := 1) rfl rfl (p := 20) rfl (zgo rfl (z_iload_n cd_X12_corrects_20 (j := 2) rfl rfl (p := 21) rfl (zgo rfl (z_cv1 cd_X12_corrects_21 (zv (key := 375) (by decide)) cl_X12_c375 rfl rfl rfl rfl (p := 24) rfl (fun _ => (zgo rfl (z_if_ne cd_X12_corrects_24 (p := 30) rfl (p2 := 27) rfl (zgo rfl (z_bipush cd_X12_corrects_27 kb_m3 (p := 29) rfl (zgo rfl (z_iret cd_X12_corrects_29 rfl)))) (zgo rfl (z_aload_n cd_X12_corrects_30 (j := 0) rfl rfl (p := 31) rfl (zgo rfl (z_getR cd_X12_corrects_31 fd_X12_9 (p := 34) rfl (fun _ => (zgo rfl (z_iload_n cd_X12_corrects_34 (j := 1) rfl rfl (p := 35) rfl (zgo rfl (z_iload_n cd_X12_corrects_35 (j := 2) rfl rfl (p := 36) rfl (zgo rfl (z_cs0 cd_X12_corrects_36 (zs (key := 385) (by decide)) cl_X12_c385 rfl rfl rfl rfl (p := 39) rfl (fun _ => (zgo rfl (z_aload_n cd_X12_corrects_39 (j := 0) rfl rfl (p := 40) rfl (zgo rfl (z_getR cd_X12_corrects_40 fd_X12_9 (p := 43) rfl (fun _ => (zgo rfl (z_iload_n cd_X12_corrects_43 (j := 2) rfl rfl (p := 44) rfl (zgo rfl (z_iconst cd_X12_corrects_44 ki_2 (p := 45) rfl (zgo rfl (z_cs1 cd_X12_corrects_45 (zs (key := 163) (by decide)) cl_X12_c163 rfl rfl rfl rfl (p := 48) rfl (fun _ => (zgo rfl (z_iaload cd_X12_corrects_48 (p := 49) rfl (fun _ => (zgo rfl (z_iret cd_X12_corrects_49 rfl)))))))))))))))))))))))))))))))))))))))))))))))))))))))))
theorem cd_X12_sends_0 : ylk m_X12_sends.2.2.2.2.1 0 = some (.aload_n 0) := by decide +kernel
theorem cd_X12_sends_1 : ylk m_X12_sends.2.2.2.2.1 1 = some (.iload_n 1) := by decide +kernel
theorem cd_X12_sends_2 : ylk m_X12_sends.2.2.2.2.1 2 = some (.invokevirtual 114) := by decide +kernel
theorem cd_X12_sends_5 : ylk m_X12_sends.2.2.2.2.1 5 = some (.ifCond .ne 5) := by decide +kernel
theorem cd_X12_sends_8 : ylk m_X12_sends.2.2.2.2.1 8 = some (.iconst (-1)) := by decide +kernel
theorem cd_X12_sends_9 : ylk m_X12_sends.2.2.2.2.1 9 = some (.ireturn) := by decide +kernel
theorem cd_X12_sends_10 : ylk m_X12_sends.2.2.2.2.1 10 = some (.aload_n 0) := by decide +kernel
theorem cd_X12_sends_11 : ylk m_X12_sends.2.2.2.2.1 11 = some (.getfield 9) := by decide +kernel
theorem cd_X12_sends_14 : ylk m_X12_sends.2.2.2.2.1 14 = some (.iload_n 1) := by decide +kernel
theorem cd_X12_sends_15 : ylk m_X12_sends.2.2.2.2.1 15 = some (.iconst 2) := by decide +kernel
theorem cd_X12_sends_16 : ylk m_X12_sends.2.2.2.2.1 16 = some (.invokestatic 50) := by decide +kernel
theorem cd_X12_sends_19 : ylk m_X12_sends.2.2.2.2.1 19 = some (.dup2) := by decide +kernel
theorem cd_X12_sends_20 : ylk m_X12_sends.2.2.2.2.1 20 = some (.iaload) := by decide +kernel
theorem cd_X12_sends_21 : ylk m_X12_sends.2.2.2.2.1 21 = some (.iconst 1) := by decide +kernel
theorem cd_X12_sends_22 : ylk m_X12_sends.2.2.2.2.1 22 = some (.ixor) := by decide +kernel
theorem cd_X12_sends_23 : ylk m_X12_sends.2.2.2.2.1 23 = some (.iastore) := by decide +kernel
theorem cd_X12_sends_24 : ylk m_X12_sends.2.2.2.2.1 24 = some (.aload_n 0) := by decide +kernel
theorem cd_X12_sends_25 : ylk m_X12_sends.2.2.2.2.1 25 = some (.getfield 9) := by decide +kernel
theorem cd_X12_sends_28 : ylk m_X12_sends.2.2.2.2.1 28 = some (.iload_n 1) := by decide +kernel
theorem cd_X12_sends_29 : ylk m_X12_sends.2.2.2.2.1 29 = some (.iconst 2) := by decide +kernel
theorem cd_X12_sends_30 : ylk m_X12_sends.2.2.2.2.1 30 = some (.invokestatic 50) := by decide +kernel
theorem cd_X12_sends_33 : ylk m_X12_sends.2.2.2.2.1 33 = some (.iaload) := by decide +kernel
theorem cd_X12_sends_34 : ylk m_X12_sends.2.2.2.2.1 34 = some (.ireturn) := by decide +kernel
noncomputable abbrev yb_X12_sends (C : yC) : ySt → Option (Option Value × yM) := yrn m_X12_sends C
theorem en_X12_sends (n : Nat) (A : yM) (v0 : Nat) (v1 : Int32) : ycall (n + 1) 175 [.ref v0, .int v1] A = (yi (yvt [(11, 144)] (ycall n) [.ref v0, .int v1] A)).bind (fun z1 => if z1.1 = 0 then (some (some (.int (-1 : Int32)), z1.2)) else (ygR z1.2 v0 11 0 (fun a2 => (yi ((ycall n) 142 [.int v1, .int (2 : Int32)] z1.2)).bind (fun z3 => yrd z3.2 a2 z3.1 (fun x4 => ywr z3.2 a2 z3.1 (x4 ^^^ (1 : Int32)) (fun A5 => ygR A5 v0 11 0 (fun a6 => (yi ((ycall n) 142 [.int v1, .int (2 : Int32)] A5)).bind (fun z7 => yrd z7.2 a6 z7.1 (fun x8 => some (some (.int x8), z7.2)))))))))) := (ybig_blk 22 _).trans (z_aload_n cd_X12_sends_0 (j := 0) rfl rfl (p := 1) rfl (zgo rfl (z_iload_n cd_X12_sends_1 (j := 1) rfl rfl (p := 2) rfl (zgo rfl (z_cv1 cd_X12_sends_2 (zv (key := 342) (by decide)) cl_X12_c342 rfl rfl rfl rfl (p := 5) rfl (fun _ => (zgo rfl (z_if_ne cd_X12_sends_5 (p := 10) rfl (p2 := 8) rfl (zgo rfl (z_iconst cd_X12_sends_8 ki_m1 (p := 9) rfl (zgo rfl (z_iret cd_X12_sends_9 rfl)))) (zgo rfl (z_aload_n cd_X12_sends_10 (j := 0) rfl rfl (p := 11) rfl (zgo rfl (z_getR cd_X12_sends_11 fd_X12_9 (p := 14) rfl (fun _ => (zgo rfl (z_iload_n cd_X12_sends_14 (j := 1) rfl rfl (p := 15) rfl (zgo rfl (z_iconst cd_X12_sends_15 ki_2 (p := 16) rfl (zgo rfl (z_cs1 cd_X12_sends_16 (zs (key := 151) (by decide)) cl_X12_c151 rfl rfl rfl rfl (p := 19) rfl (fun _ => (zgo rfl (z_dup2 cd_X12_sends_19 (p := 20) rfl (zgo rfl (z_iaload cd_X12_sends_20 (p := 21) rfl (fun _ => (zgo rfl (z_iconst cd_X12_sends_21 ki_1 (p := 22) rfl (zgo rfl (z_ixor cd_X12_sends_22 (p := 23) rfl (zgo rfl (z_iastore cd_X12_sends_23 (p := 24) rfl (fun _ => (zgo rfl (z_aload_n cd_X12_sends_24 (j := 0) rfl rfl (p := 25) rfl (zgo rfl (z_getR cd_X12_sends_25 fd_X12_9 (p := 28) rfl (fun _ => (zgo rfl (z_iload_n cd_X12_sends_28 (j := 1) rfl rfl (p := 29) rfl (zgo rfl (z_iconst cd_X12_sends_29 ki_2 (p := 30) rfl (zgo rfl (z_cs1 cd_X12_sends_30 (zs (key := 151) (by decide)) cl_X12_c151 rfl rfl rfl rfl (p := 33) rfl (fun _ => (zgo rfl (z_iaload cd_X12_sends_33 (p := 34) rfl (fun _ => (zgo rfl (z_iret cd_X12_sends_34 rfl)))))))))))))))))))))))))))))))))))))))))))))))))
theorem cd_X12_weeks_0 : ylk m_X12_weeks.2.2.2.2.1 0 = some (.iload_n 1) := by decide +kernel
theorem cd_X12_weeks_1 : ylk m_X12_weeks.2.2.2.2.1 1 = some (.iconst 1) := by decide +kernel
theorem cd_X12_weeks_2 : ylk m_X12_weeks.2.2.2.2.1 2 = some (.bipush 60) := by decide +kernel
theorem cd_X12_weeks_4 : ylk m_X12_weeks.2.2.2.2.1 4 = some (.invokestatic 46) := by decide +kernel
theorem cd_X12_weeks_7 : ylk m_X12_weeks.2.2.2.2.1 7 = some (.ifCond .ne 5) := by decide +kernel
theorem cd_X12_weeks_10 : ylk m_X12_weeks.2.2.2.2.1 10 = some (.iconst (-1)) := by decide +kernel
theorem cd_X12_weeks_11 : ylk m_X12_weeks.2.2.2.2.1 11 = some (.ireturn) := by decide +kernel
theorem cd_X12_weeks_12 : ylk m_X12_weeks.2.2.2.2.1 12 = some (.aload_n 0) := by decide +kernel
theorem cd_X12_weeks_13 : ylk m_X12_weeks.2.2.2.2.1 13 = some (.getfield 9) := by decide +kernel
theorem cd_X12_weeks_16 : ylk m_X12_weeks.2.2.2.2.1 16 = some (.iconst 2) := by decide +kernel
theorem cd_X12_weeks_17 : ylk m_X12_weeks.2.2.2.2.1 17 = some (.iaload) := by decide +kernel
theorem cd_X12_weeks_18 : ylk m_X12_weeks.2.2.2.2.1 18 = some (.iload_n 1) := by decide +kernel
theorem cd_X12_weeks_19 : ylk m_X12_weeks.2.2.2.2.1 19 = some (.iadd) := by decide +kernel
theorem cd_X12_weeks_20 : ylk m_X12_weeks.2.2.2.2.1 20 = some (.sipush 999) := by decide +kernel
theorem cd_X12_weeks_23 : ylk m_X12_weeks.2.2.2.2.1 23 = some (.if_icmp .le 6) := by decide +kernel
theorem cd_X12_weeks_26 : ylk m_X12_weeks.2.2.2.2.1 26 = some (.bipush (-3)) := by decide +kernel
theorem cd_X12_weeks_28 : ylk m_X12_weeks.2.2.2.2.1 28 = some (.ireturn) := by decide +kernel
theorem cd_X12_weeks_29 : ylk m_X12_weeks.2.2.2.2.1 29 = some (.aload_n 0) := by decide +kernel
theorem cd_X12_weeks_30 : ylk m_X12_weeks.2.2.2.2.1 30 = some (.getfield 9) := by decide +kernel
theorem cd_X12_weeks_33 : ylk m_X12_weeks.2.2.2.2.1 33 = some (.iload_n 1) := by decide +kernel
theorem cd_X12_weeks_34 : ylk m_X12_weeks.2.2.2.2.1 34 = some (.invokestatic 132) := by decide +kernel
theorem cd_X12_weeks_37 : ylk m_X12_weeks.2.2.2.2.1 37 = some (.aload_n 0) := by decide +kernel
theorem cd_X12_weeks_38 : ylk m_X12_weeks.2.2.2.2.1 38 = some (.getfield 9) := by decide +kernel
theorem cd_X12_weeks_41 : ylk m_X12_weeks.2.2.2.2.1 41 = some (.invokestatic 160) := by decide +kernel
theorem cd_X12_weeks_44 : ylk m_X12_weeks.2.2.2.2.1 44 = some (.ireturn) := by decide +kernel
noncomputable abbrev yb_X12_weeks (C : yC) : ySt → Option (Option Value × yM) := yrn m_X12_weeks C
theorem en_X12_weeks (n : Nat) (A : yM) (v0 : Nat) (v1 : Int32) : ycall (n + 1) 176 [.ref v0, .int v1] A = (yi ((ycall n) 138 [.int v1, .int (1 : Int32), .int (60 : Int32)] A)).bind (fun z1 => if z1.1 = 0 then (some (some (.int (-1 : Int32)), z1.2)) else (ygR z1.2 v0 11 0 (fun a2 => yrd z1.2 a2 (2 : Int32) (fun x3 => if (x3 + v1) ≤ (999 : Int32) then (ygR z1.2 v0 11 0 (fun a4 => (yv ((ycall n) 159 [.ref a4, .int v1] z1.2)).bind (fun A5 => ygR A5 v0 11 0 (fun a6 => (yi ((ycall n) 155 [.ref a6] A5)).bind (fun z7 => some (some (.int z7.1), z7.2)))))) else (some (some (.int (-3 : Int32)), z1.2)))))) := (ybig_blk 22 _).trans (z_iload_n cd_X12_weeks_0 (j := 1) rfl rfl (p := 1) rfl (zgo rfl (z_iconst cd_X12_weeks_1 ki_1 (p := 2) rfl (zgo rfl (z_bipush cd_X12_weeks_2 kb_60 (p := 4) rfl (zgo rfl (z_cs1 cd_X12_weeks_4 (zs (key := 139) (by decide)) cl_X12_c139 rfl rfl rfl rfl (p := 7) rfl (fun _ => (zgo rfl (z_if_ne cd_X12_weeks_7 (p := 12) rfl (p2 := 10) rfl (zgo rfl (z_iconst cd_X12_weeks_10 ki_m1 (p := 11) rfl (zgo rfl (z_iret cd_X12_weeks_11 rfl)))) (zgo rfl (z_aload_n cd_X12_weeks_12 (j := 0) rfl rfl (p := 13) rfl (zgo rfl (z_getR cd_X12_weeks_13 fd_X12_9 (p := 16) rfl (fun _ => (zgo rfl (z_iconst cd_X12_weeks_16 ki_2 (p := 17) rfl (zgo rfl (z_iaload cd_X12_weeks_17 (p := 18) rfl (fun _ => (zgo rfl (z_iload_n cd_X12_weeks_18 (j := 1) rfl rfl (p := 19) rfl (zgo rfl (z_iadd cd_X12_weeks_19 (p := 20) rfl (zgo rfl (z_sipush cd_X12_weeks_20 ks_999 (p := 23) rfl (zgo rfl (z_ic_le cd_X12_weeks_23 (p := 29) rfl (p2 := 26) rfl (zgo rfl (z_aload_n cd_X12_weeks_29 (j := 0) rfl rfl (p := 30) rfl (zgo rfl (z_getR cd_X12_weeks_30 fd_X12_9 (p := 33) rfl (fun _ => (zgo rfl (z_iload_n cd_X12_weeks_33 (j := 1) rfl rfl (p := 34) rfl (zgo rfl (z_cs0 cd_X12_weeks_34 (zs (key := 397) (by decide)) cl_X12_c397 rfl rfl rfl rfl (p := 37) rfl (fun _ => (zgo rfl (z_aload_n cd_X12_weeks_37 (j := 0) rfl rfl (p := 38) rfl (zgo rfl (z_getR cd_X12_weeks_38 fd_X12_9 (p := 41) rfl (fun _ => (zgo rfl (z_cs1 cd_X12_weeks_41 (zs (key := 481) (by decide)) cl_X12_c481 rfl rfl rfl rfl (p := 44) rfl (fun _ => (zgo rfl (z_iret cd_X12_weeks_44 rfl)))))))))))))))))))) (zgo rfl (z_bipush cd_X12_weeks_26 kb_m3 (p := 28) rfl (zgo rfl (z_iret cd_X12_weeks_28 rfl))))))))))))))))))))))))))))))))
theorem cd_X12_isLate_0 : ylk m_X12_isLate.2.2.2.2.1 0 = some (.iload_n 0) := by decide +kernel
theorem cd_X12_isLate_1 : ylk m_X12_isLate.2.2.2.2.1 1 = some (.iconst 0) := by decide +kernel
theorem cd_X12_isLate_2 : ylk m_X12_isLate.2.2.2.2.1 2 = some (.bipush 60) := by decide +kernel
theorem cd_X12_isLate_4 : ylk m_X12_isLate.2.2.2.2.1 4 = some (.invokestatic 46) := by decide +kernel
theorem cd_X12_isLate_7 : ylk m_X12_isLate.2.2.2.2.1 7 = some (.ireturn) := by decide +kernel
noncomputable abbrev yb_X12_isLate (C : yC) : ySt → Option (Option Value × yM) := yrn m_X12_isLate C
theorem en_X12_isLate (n : Nat) (A : yM) (v0 : Int32) : ycall (n + 1) 177 [.int v0] A = (yi ((ycall n) 138 [.int v0, .int (0 : Int32), .int (60 : Int32)] A)).bind (fun z1 => if z1.1 = 0 ∨ z1.1 = 1 then some (some (.int z1.1), z1.2) else none) := (ybig_blk 6 _).trans (z_iload_n cd_X12_isLate_0 (j := 0) rfl rfl (p := 1) rfl (zgo rfl (z_iconst cd_X12_isLate_1 ki_0 (p := 2) rfl (zgo rfl (z_bipush cd_X12_isLate_2 kb_60 (p := 4) rfl (zgo rfl (z_cs1 cd_X12_isLate_4 (zs (key := 139) (by decide)) cl_X12_c139 rfl rfl rfl rfl (p := 7) rfl (fun _ => (zgo rfl (z_zret cd_X12_isLate_7 rfl))))))))))
theorem cd_X12_takes_0 : ylk m_X12_takes.2.2.2.2.1 0 = some (.aload_n 0) := by decide +kernel
theorem cd_X12_takes_1 : ylk m_X12_takes.2.2.2.2.1 1 = some (.getfield 9) := by decide +kernel
theorem cd_X12_takes_4 : ylk m_X12_takes.2.2.2.2.1 4 = some (.aload_n 0) := by decide +kernel
theorem cd_X12_takes_5 : ylk m_X12_takes.2.2.2.2.1 5 = some (.getfield 13) := by decide +kernel
theorem cd_X12_takes_8 : ylk m_X12_takes.2.2.2.2.1 8 = some (.invokestatic 143) := by decide +kernel
theorem cd_X12_takes_11 : ylk m_X12_takes.2.2.2.2.1 11 = some (.aload_n 0) := by decide +kernel
theorem cd_X12_takes_12 : ylk m_X12_takes.2.2.2.2.1 12 = some (.getfield 13) := by decide +kernel
theorem cd_X12_takes_15 : ylk m_X12_takes.2.2.2.2.1 15 = some (.iload_n 1) := by decide +kernel
theorem cd_X12_takes_16 : ylk m_X12_takes.2.2.2.2.1 16 = some (.invokestatic 132) := by decide +kernel
theorem cd_X12_takes_19 : ylk m_X12_takes.2.2.2.2.1 19 = some (.return_) := by decide +kernel
noncomputable abbrev yb_X12_takes (C : yC) : ySt → Option (Option Value × yM) := yrn m_X12_takes C
theorem en_X12_takes (n : Nat) (A : yM) (v0 : Nat) (v1 : Int32) : ycall (n + 1) 178 [.ref v0, .int v1] A = ygR A v0 11 0 (fun a1 => ygR A v0 11 1 (fun a2 => (yv ((ycall n) 141 [.ref a1, .ref a2] A)).bind (fun A3 => ygR A3 v0 11 1 (fun a4 => (yv ((ycall n) 159 [.ref a4, .int v1] A3)).bind (fun A5 => some (none, A5)))))) := (ybig_blk 11 _).trans (z_aload_n cd_X12_takes_0 (j := 0) rfl rfl (p := 1) rfl (zgo rfl (z_getR cd_X12_takes_1 fd_X12_9 (p := 4) rfl (fun _ => (zgo rfl (z_aload_n cd_X12_takes_4 (j := 0) rfl rfl (p := 5) rfl (zgo rfl (z_getR cd_X12_takes_5 fd_X12_13 (p := 8) rfl (fun _ => (zgo rfl (z_cs0 cd_X12_takes_8 (zs (key := 430) (by decide)) cl_X12_c430 rfl rfl rfl rfl (p := 11) rfl (fun _ => (zgo rfl (z_aload_n cd_X12_takes_11 (j := 0) rfl rfl (p := 12) rfl (zgo rfl (z_getR cd_X12_takes_12 fd_X12_13 (p := 15) rfl (fun _ => (zgo rfl (z_iload_n cd_X12_takes_15 (j := 1) rfl rfl (p := 16) rfl (zgo rfl (z_cs0 cd_X12_takes_16 (zs (key := 397) (by decide)) cl_X12_c397 rfl rfl rfl rfl (p := 19) rfl (fun _ => (zgo rfl (z_ret cd_X12_takes_19 rfl))))))))))))))))))))))))
theorem cd_X12_marksThen_0 : ylk m_X12_marksThen.2.2.2.2.1 0 = some (.aload_n 0) := by decide +kernel
theorem cd_X12_marksThen_1 : ylk m_X12_marksThen.2.2.2.2.1 1 = some (.iload_n 1) := by decide +kernel
theorem cd_X12_marksThen_2 : ylk m_X12_marksThen.2.2.2.2.1 2 = some (.invokevirtual 114) := by decide +kernel
theorem cd_X12_marksThen_5 : ylk m_X12_marksThen.2.2.2.2.1 5 = some (.ifCond .eq 10) := by decide +kernel
theorem cd_X12_marksThen_8 : ylk m_X12_marksThen.2.2.2.2.1 8 = some (.iload_n 2) := by decide +kernel
theorem cd_X12_marksThen_9 : ylk m_X12_marksThen.2.2.2.2.1 9 = some (.invokestatic 164) := by decide +kernel
theorem cd_X12_marksThen_12 : ylk m_X12_marksThen.2.2.2.2.1 12 = some (.ifCond .ne 5) := by decide +kernel
theorem cd_X12_marksThen_15 : ylk m_X12_marksThen.2.2.2.2.1 15 = some (.iconst (-1)) := by decide +kernel
theorem cd_X12_marksThen_16 : ylk m_X12_marksThen.2.2.2.2.1 16 = some (.ireturn) := by decide +kernel
theorem cd_X12_marksThen_17 : ylk m_X12_marksThen.2.2.2.2.1 17 = some (.aload_n 0) := by decide +kernel
theorem cd_X12_marksThen_18 : ylk m_X12_marksThen.2.2.2.2.1 18 = some (.iload_n 2) := by decide +kernel
theorem cd_X12_marksThen_19 : ylk m_X12_marksThen.2.2.2.2.1 19 = some (.invokevirtual 167) := by decide +kernel
theorem cd_X12_marksThen_22 : ylk m_X12_marksThen.2.2.2.2.1 22 = some (.aload_n 0) := by decide +kernel
theorem cd_X12_marksThen_23 : ylk m_X12_marksThen.2.2.2.2.1 23 = some (.getfield 13) := by decide +kernel
theorem cd_X12_marksThen_26 : ylk m_X12_marksThen.2.2.2.2.1 26 = some (.iload_n 1) := by decide +kernel
theorem cd_X12_marksThen_27 : ylk m_X12_marksThen.2.2.2.2.1 27 = some (.invokestatic 77) := by decide +kernel
theorem cd_X12_marksThen_30 : ylk m_X12_marksThen.2.2.2.2.1 30 = some (.ireturn) := by decide +kernel
noncomputable abbrev yb_X12_marksThen (C : yC) : ySt → Option (Option Value × yM) := yrn m_X12_marksThen C
theorem en_X12_marksThen (n : Nat) (A : yM) (v0 : Nat) (v1 : Int32) (v2 : Int32) : ycall (n + 1) 179 [.ref v0, .int v1, .int v2] A = (yi (yvt [(11, 144)] (ycall n) [.ref v0, .int v1] A)).bind (fun z1 => if z1.1 = 0 then (some (some (.int (-1 : Int32)), z1.2)) else ((yi ((ycall n) 177 [.int v2] z1.2)).bind (fun z2 => if z2.1 = 0 then (some (some (.int (-1 : Int32)), z2.2)) else ((yv (yvt [(11, 178)] (ycall n) [.ref v0, .int v2] z2.2)).bind (fun A3 => ygR A3 v0 11 1 (fun a4 => (yi ((ycall n) 154 [.ref a4, .int v1] A3)).bind (fun z5 => some (some (.int z5.1), z5.2)))))))) := (ybig_blk 16 _).trans (z_aload_n cd_X12_marksThen_0 (j := 0) rfl rfl (p := 1) rfl (zgo rfl (z_iload_n cd_X12_marksThen_1 (j := 1) rfl rfl (p := 2) rfl (zgo rfl (z_cv1 cd_X12_marksThen_2 (zv (key := 342) (by decide)) cl_X12_c342 rfl rfl rfl rfl (p := 5) rfl (fun _ => (zgo rfl (z_if_eq cd_X12_marksThen_5 (p := 15) rfl (p2 := 8) rfl (zgo rfl (z_iconst cd_X12_marksThen_15 ki_m1 (p := 16) rfl (zgo rfl (z_iret cd_X12_marksThen_16 rfl)))) (zgo rfl (z_iload_n cd_X12_marksThen_8 (j := 2) rfl rfl (p := 9) rfl (zgo rfl (z_cs1 cd_X12_marksThen_9 (zs (key := 493) (by decide)) cl_X12_c493 rfl rfl rfl rfl (p := 12) rfl (fun _ => (zgo rfl (z_if_ne cd_X12_marksThen_12 (p := 17) rfl (p2 := 15) rfl (zgo rfl (z_iconst cd_X12_marksThen_15 ki_m1 (p := 16) rfl (zgo rfl (z_iret cd_X12_marksThen_16 rfl)))) (zgo rfl (z_aload_n cd_X12_marksThen_17 (j := 0) rfl rfl (p := 18) rfl (zgo rfl (z_iload_n cd_X12_marksThen_18 (j := 2) rfl rfl (p := 19) rfl (zgo rfl (z_cv0 cd_X12_marksThen_19 (zv (key := 501) (by decide)) cl_X12_c501 rfl rfl rfl rfl (p := 22) rfl (fun _ => (zgo rfl (z_aload_n cd_X12_marksThen_22 (j := 0) rfl rfl (p := 23) rfl (zgo rfl (z_getR cd_X12_marksThen_23 fd_X12_13 (p := 26) rfl (fun _ => (zgo rfl (z_iload_n cd_X12_marksThen_26 (j := 1) rfl rfl (p := 27) rfl (zgo rfl (z_cs1 cd_X12_marksThen_27 (zs (key := 232) (by decide)) cl_X12_c232 rfl rfl rfl rfl (p := 30) rfl (fun _ => (zgo rfl (z_iret cd_X12_marksThen_30 rfl))))))))))))))))))))))))))))))))))
theorem cd_X12_sizeThen_0 : ylk m_X12_sizeThen.2.2.2.2.1 0 = some (.aload_n 0) := by decide +kernel
theorem cd_X12_sizeThen_1 : ylk m_X12_sizeThen.2.2.2.2.1 1 = some (.iload_n 1) := by decide +kernel
theorem cd_X12_sizeThen_2 : ylk m_X12_sizeThen.2.2.2.2.1 2 = some (.invokevirtual 118) := by decide +kernel
theorem cd_X12_sizeThen_5 : ylk m_X12_sizeThen.2.2.2.2.1 5 = some (.ifCond .eq 10) := by decide +kernel
theorem cd_X12_sizeThen_8 : ylk m_X12_sizeThen.2.2.2.2.1 8 = some (.iload_n 2) := by decide +kernel
theorem cd_X12_sizeThen_9 : ylk m_X12_sizeThen.2.2.2.2.1 9 = some (.invokestatic 164) := by decide +kernel
theorem cd_X12_sizeThen_12 : ylk m_X12_sizeThen.2.2.2.2.1 12 = some (.ifCond .ne 5) := by decide +kernel
theorem cd_X12_sizeThen_15 : ylk m_X12_sizeThen.2.2.2.2.1 15 = some (.iconst (-1)) := by decide +kernel
theorem cd_X12_sizeThen_16 : ylk m_X12_sizeThen.2.2.2.2.1 16 = some (.ireturn) := by decide +kernel
theorem cd_X12_sizeThen_17 : ylk m_X12_sizeThen.2.2.2.2.1 17 = some (.aload_n 0) := by decide +kernel
theorem cd_X12_sizeThen_18 : ylk m_X12_sizeThen.2.2.2.2.1 18 = some (.iload_n 2) := by decide +kernel
theorem cd_X12_sizeThen_19 : ylk m_X12_sizeThen.2.2.2.2.1 19 = some (.invokevirtual 167) := by decide +kernel
theorem cd_X12_sizeThen_22 : ylk m_X12_sizeThen.2.2.2.2.1 22 = some (.aload_n 0) := by decide +kernel
theorem cd_X12_sizeThen_23 : ylk m_X12_sizeThen.2.2.2.2.1 23 = some (.getfield 13) := by decide +kernel
theorem cd_X12_sizeThen_26 : ylk m_X12_sizeThen.2.2.2.2.1 26 = some (.iload_n 1) := by decide +kernel
theorem cd_X12_sizeThen_27 : ylk m_X12_sizeThen.2.2.2.2.1 27 = some (.iconst 2) := by decide +kernel
theorem cd_X12_sizeThen_28 : ylk m_X12_sizeThen.2.2.2.2.1 28 = some (.invokestatic 54) := by decide +kernel
theorem cd_X12_sizeThen_31 : ylk m_X12_sizeThen.2.2.2.2.1 31 = some (.iaload) := by decide +kernel
theorem cd_X12_sizeThen_32 : ylk m_X12_sizeThen.2.2.2.2.1 32 = some (.ireturn) := by decide +kernel
noncomputable abbrev yb_X12_sizeThen (C : yC) : ySt → Option (Option Value × yM) := yrn m_X12_sizeThen C
theorem en_X12_sizeThen (n : Nat) (A : yM) (v0 : Nat) (v1 : Int32) (v2 : Int32) : ycall (n + 1) 180 [.ref v0, .int v1, .int v2] A = (yi (yvt [(11, 145)] (ycall n) [.ref v0, .int v1] A)).bind (fun z1 => if z1.1 = 0 then (some (some (.int (-1 : Int32)), z1.2)) else ((yi ((ycall n) 177 [.int v2] z1.2)).bind (fun z2 => if z2.1 = 0 then (some (some (.int (-1 : Int32)), z2.2)) else ((yv (yvt [(11, 178)] (ycall n) [.ref v0, .int v2] z2.2)).bind (fun A3 => ygR A3 v0 11 1 (fun a4 => (yi ((ycall n) 143 [.int v1, .int (2 : Int32)] A3)).bind (fun z5 => yrd z5.2 a4 z5.1 (fun x6 => some (some (.int x6), z5.2))))))))) := (ybig_blk 18 _).trans (z_aload_n cd_X12_sizeThen_0 (j := 0) rfl rfl (p := 1) rfl (zgo rfl (z_iload_n cd_X12_sizeThen_1 (j := 1) rfl rfl (p := 2) rfl (zgo rfl (z_cv1 cd_X12_sizeThen_2 (zv (key := 354) (by decide)) cl_X12_c354 rfl rfl rfl rfl (p := 5) rfl (fun _ => (zgo rfl (z_if_eq cd_X12_sizeThen_5 (p := 15) rfl (p2 := 8) rfl (zgo rfl (z_iconst cd_X12_sizeThen_15 ki_m1 (p := 16) rfl (zgo rfl (z_iret cd_X12_sizeThen_16 rfl)))) (zgo rfl (z_iload_n cd_X12_sizeThen_8 (j := 2) rfl rfl (p := 9) rfl (zgo rfl (z_cs1 cd_X12_sizeThen_9 (zs (key := 493) (by decide)) cl_X12_c493 rfl rfl rfl rfl (p := 12) rfl (fun _ => (zgo rfl (z_if_ne cd_X12_sizeThen_12 (p := 17) rfl (p2 := 15) rfl (zgo rfl (z_iconst cd_X12_sizeThen_15 ki_m1 (p := 16) rfl (zgo rfl (z_iret cd_X12_sizeThen_16 rfl)))) (zgo rfl (z_aload_n cd_X12_sizeThen_17 (j := 0) rfl rfl (p := 18) rfl (zgo rfl (z_iload_n cd_X12_sizeThen_18 (j := 2) rfl rfl (p := 19) rfl (zgo rfl (z_cv0 cd_X12_sizeThen_19 (zv (key := 501) (by decide)) cl_X12_c501 rfl rfl rfl rfl (p := 22) rfl (fun _ => (zgo rfl (z_aload_n cd_X12_sizeThen_22 (j := 0) rfl rfl (p := 23) rfl (zgo rfl (z_getR cd_X12_sizeThen_23 fd_X12_13 (p := 26) rfl (fun _ => (zgo rfl (z_iload_n cd_X12_sizeThen_26 (j := 1) rfl rfl (p := 27) rfl (zgo rfl (z_iconst cd_X12_sizeThen_27 ki_2 (p := 28) rfl (zgo rfl (z_cs1 cd_X12_sizeThen_28 (zs (key := 163) (by decide)) cl_X12_c163 rfl rfl rfl rfl (p := 31) rfl (fun _ => (zgo rfl (z_iaload cd_X12_sizeThen_31 (p := 32) rfl (fun _ => (zgo rfl (z_iret cd_X12_sizeThen_32 rfl)))))))))))))))))))))))))))))))))))))))
theorem cd_X12_firstThen_0 : ylk m_X12_firstThen.2.2.2.2.1 0 = some (.iload_n 1) := by decide +kernel
theorem cd_X12_firstThen_1 : ylk m_X12_firstThen.2.2.2.2.1 1 = some (.invokestatic 164) := by decide +kernel
theorem cd_X12_firstThen_4 : ylk m_X12_firstThen.2.2.2.2.1 4 = some (.ifCond .ne 5) := by decide +kernel
theorem cd_X12_firstThen_7 : ylk m_X12_firstThen.2.2.2.2.1 7 = some (.iconst (-1)) := by decide +kernel
theorem cd_X12_firstThen_8 : ylk m_X12_firstThen.2.2.2.2.1 8 = some (.ireturn) := by decide +kernel
theorem cd_X12_firstThen_9 : ylk m_X12_firstThen.2.2.2.2.1 9 = some (.aload_n 0) := by decide +kernel
theorem cd_X12_firstThen_10 : ylk m_X12_firstThen.2.2.2.2.1 10 = some (.iload_n 1) := by decide +kernel
theorem cd_X12_firstThen_11 : ylk m_X12_firstThen.2.2.2.2.1 11 = some (.invokevirtual 167) := by decide +kernel
theorem cd_X12_firstThen_14 : ylk m_X12_firstThen.2.2.2.2.1 14 = some (.aload_n 0) := by decide +kernel
theorem cd_X12_firstThen_15 : ylk m_X12_firstThen.2.2.2.2.1 15 = some (.getfield 13) := by decide +kernel
theorem cd_X12_firstThen_18 : ylk m_X12_firstThen.2.2.2.2.1 18 = some (.invokestatic 171) := by decide +kernel
theorem cd_X12_firstThen_21 : ylk m_X12_firstThen.2.2.2.2.1 21 = some (.ireturn) := by decide +kernel
noncomputable abbrev yb_X12_firstThen (C : yC) : ySt → Option (Option Value × yM) := yrn m_X12_firstThen C
theorem en_X12_firstThen (n : Nat) (A : yM) (v0 : Nat) (v1 : Int32) : ycall (n + 1) 181 [.ref v0, .int v1] A = (yi ((ycall n) 177 [.int v1] A)).bind (fun z1 => if z1.1 = 0 then (some (some (.int (-1 : Int32)), z1.2)) else ((yv (yvt [(11, 178)] (ycall n) [.ref v0, .int v1] z1.2)).bind (fun A2 => ygR A2 v0 11 1 (fun a3 => (yi ((ycall n) 157 [.ref a3] A2)).bind (fun z4 => some (some (.int z4.1), z4.2)))))) := (ybig_blk 11 _).trans (z_iload_n cd_X12_firstThen_0 (j := 1) rfl rfl (p := 1) rfl (zgo rfl (z_cs1 cd_X12_firstThen_1 (zs (key := 493) (by decide)) cl_X12_c493 rfl rfl rfl rfl (p := 4) rfl (fun _ => (zgo rfl (z_if_ne cd_X12_firstThen_4 (p := 9) rfl (p2 := 7) rfl (zgo rfl (z_iconst cd_X12_firstThen_7 ki_m1 (p := 8) rfl (zgo rfl (z_iret cd_X12_firstThen_8 rfl)))) (zgo rfl (z_aload_n cd_X12_firstThen_9 (j := 0) rfl rfl (p := 10) rfl (zgo rfl (z_iload_n cd_X12_firstThen_10 (j := 1) rfl rfl (p := 11) rfl (zgo rfl (z_cv0 cd_X12_firstThen_11 (zv (key := 501) (by decide)) cl_X12_c501 rfl rfl rfl rfl (p := 14) rfl (fun _ => (zgo rfl (z_aload_n cd_X12_firstThen_14 (j := 0) rfl rfl (p := 15) rfl (zgo rfl (z_getR cd_X12_firstThen_15 fd_X12_13 (p := 18) rfl (fun _ => (zgo rfl (z_cs1 cd_X12_firstThen_18 (zs (key := 514) (by decide)) cl_X12_c514 rfl rfl rfl rfl (p := 21) rfl (fun _ => (zgo rfl (z_iret cd_X12_firstThen_21 rfl)))))))))))))))))))))))
theorem cd_X12_firstWhen_0 : ylk m_X12_firstWhen.2.2.2.2.1 0 = some (.aload_n 0) := by decide +kernel
theorem cd_X12_firstWhen_1 : ylk m_X12_firstWhen.2.2.2.2.1 1 = some (.iload_n 1) := by decide +kernel
theorem cd_X12_firstWhen_2 : ylk m_X12_firstWhen.2.2.2.2.1 2 = some (.invokevirtual 114) := by decide +kernel
theorem cd_X12_firstWhen_5 : ylk m_X12_firstWhen.2.2.2.2.1 5 = some (.ifCond .ne 5) := by decide +kernel
theorem cd_X12_firstWhen_8 : ylk m_X12_firstWhen.2.2.2.2.1 8 = some (.iconst (-1)) := by decide +kernel
theorem cd_X12_firstWhen_9 : ylk m_X12_firstWhen.2.2.2.2.1 9 = some (.ireturn) := by decide +kernel
theorem cd_X12_firstWhen_10 : ylk m_X12_firstWhen.2.2.2.2.1 10 = some (.aload_n 0) := by decide +kernel
theorem cd_X12_firstWhen_11 : ylk m_X12_firstWhen.2.2.2.2.1 11 = some (.getfield 9) := by decide +kernel
theorem cd_X12_firstWhen_14 : ylk m_X12_firstWhen.2.2.2.2.1 14 = some (.aload_n 0) := by decide +kernel
theorem cd_X12_firstWhen_15 : ylk m_X12_firstWhen.2.2.2.2.1 15 = some (.getfield 13) := by decide +kernel
theorem cd_X12_firstWhen_18 : ylk m_X12_firstWhen.2.2.2.2.1 18 = some (.invokestatic 143) := by decide +kernel
theorem cd_X12_firstWhen_21 : ylk m_X12_firstWhen.2.2.2.2.1 21 = some (.iconst 0) := by decide +kernel
theorem cd_X12_firstWhen_22 : ylk m_X12_firstWhen.2.2.2.2.1 22 = some (.istore_n 2) := by decide +kernel
theorem cd_X12_firstWhen_23 : ylk m_X12_firstWhen.2.2.2.2.1 23 = some (.iload_n 2) := by decide +kernel
theorem cd_X12_firstWhen_24 : ylk m_X12_firstWhen.2.2.2.2.1 24 = some (.bipush 60) := by decide +kernel
theorem cd_X12_firstWhen_26 : ylk m_X12_firstWhen.2.2.2.2.1 26 = some (.if_icmp .gt 29) := by decide +kernel
theorem cd_X12_firstWhen_29 : ylk m_X12_firstWhen.2.2.2.2.1 29 = some (.aload_n 0) := by decide +kernel
theorem cd_X12_firstWhen_30 : ylk m_X12_firstWhen.2.2.2.2.1 30 = some (.getfield 13) := by decide +kernel
theorem cd_X12_firstWhen_33 : ylk m_X12_firstWhen.2.2.2.2.1 33 = some (.invokestatic 171) := by decide +kernel
theorem cd_X12_firstWhen_36 : ylk m_X12_firstWhen.2.2.2.2.1 36 = some (.iload_n 1) := by decide +kernel
theorem cd_X12_firstWhen_37 : ylk m_X12_firstWhen.2.2.2.2.1 37 = some (.if_icmp .ne 5) := by decide +kernel
theorem cd_X12_firstWhen_40 : ylk m_X12_firstWhen.2.2.2.2.1 40 = some (.iload_n 2) := by decide +kernel
theorem cd_X12_firstWhen_41 : ylk m_X12_firstWhen.2.2.2.2.1 41 = some (.ireturn) := by decide +kernel
theorem cd_X12_firstWhen_42 : ylk m_X12_firstWhen.2.2.2.2.1 42 = some (.aload_n 0) := by decide +kernel
theorem cd_X12_firstWhen_43 : ylk m_X12_firstWhen.2.2.2.2.1 43 = some (.getfield 13) := by decide +kernel
theorem cd_X12_firstWhen_46 : ylk m_X12_firstWhen.2.2.2.2.1 46 = some (.invokestatic 88) := by decide +kernel
theorem cd_X12_firstWhen_49 : ylk m_X12_firstWhen.2.2.2.2.1 49 = some (.iinc 2 1) := by decide +kernel
theorem cd_X12_firstWhen_52 : ylk m_X12_firstWhen.2.2.2.2.1 52 = some (.goto (-29)) := by decide +kernel
theorem cd_X12_firstWhen_55 : ylk m_X12_firstWhen.2.2.2.2.1 55 = some (.bipush (-4)) := by decide +kernel
theorem cd_X12_firstWhen_57 : ylk m_X12_firstWhen.2.2.2.2.1 57 = some (.ireturn) := by decide +kernel
noncomputable abbrev yb_X12_firstWhen (C : yC) : ySt → Option (Option Value × yM) := yrn m_X12_firstWhen C
theorem en_X12_firstWhen (n : Nat) (A : yM) (v0 : Nat) (v1 : Int32) : ycall (n + 1) 182 [.ref v0, .int v1] A = (yi (yvt [(11, 144)] (ycall n) [.ref v0, .int v1] A)).bind (fun z1 => if z1.1 = 0 then (some (some (.int (-1 : Int32)), z1.2)) else (ygR z1.2 v0 11 0 (fun a2 => ygR z1.2 v0 11 1 (fun a3 => (yv ((ycall n) 141 [.ref a2, .ref a3] z1.2)).bind (fun A4 => yb_X12_firstWhen (ycall n) (23, [some (.ref v0), some (.int v1), some (.int (0 : Int32))], [], A4)))))) := (ybig_blk 12 _).trans (z_aload_n cd_X12_firstWhen_0 (j := 0) rfl rfl (p := 1) rfl (zgo rfl (z_iload_n cd_X12_firstWhen_1 (j := 1) rfl rfl (p := 2) rfl (zgo rfl (z_cv1 cd_X12_firstWhen_2 (zv (key := 342) (by decide)) cl_X12_c342 rfl rfl rfl rfl (p := 5) rfl (fun _ => (zgo rfl (z_if_ne cd_X12_firstWhen_5 (p := 10) rfl (p2 := 8) rfl (zgo rfl (z_iconst cd_X12_firstWhen_8 ki_m1 (p := 9) rfl (zgo rfl (z_iret cd_X12_firstWhen_9 rfl)))) (zgo rfl (z_aload_n cd_X12_firstWhen_10 (j := 0) rfl rfl (p := 11) rfl (zgo rfl (z_getR cd_X12_firstWhen_11 fd_X12_9 (p := 14) rfl (fun _ => (zgo rfl (z_aload_n cd_X12_firstWhen_14 (j := 0) rfl rfl (p := 15) rfl (zgo rfl (z_getR cd_X12_firstWhen_15 fd_X12_13 (p := 18) rfl (fun _ => (zgo rfl (z_cs0 cd_X12_firstWhen_18 (zs (key := 430) (by decide)) cl_X12_c430 rfl rfl rfl rfl (p := 21) rfl (fun _ => (zgo rfl (z_iconst cd_X12_firstWhen_21 ki_0 (p := 22) rfl (zgo rfl (z_istore_n cd_X12_firstWhen_22 (j := 2) rfl rfl (p := 23) rfl (zcut (p := 23) rfl rfl))))))))))))))))))))))))))
theorem bk_X12_firstWhen_23 (C : yC) (A : yM) (v0 : Nat) (v1 : Int32) (v2 : Int32) : yb_X12_firstWhen C (23, [some (.ref v0), some (.int v1), some (.int v2)], [], A) = if (60 : Int32) < v2 then (some (some (.int (-4 : Int32)), A)) else (ygR A v0 11 1 (fun a1 => (yi (C 157 [.ref a1] A)).bind (fun z2 => if z2.1 = v1 then (some (some (.int v2), z2.2)) else (ygR z2.2 v0 11 1 (fun a3 => (yv (C 158 [.ref a3] z2.2)).bind (fun A4 => yb_X12_firstWhen C (23, [some (.ref v0), some (.int v1), some (.int (v2 + (1 : Int32)))], [], A4))))))) := (ybig_blk 14 _).trans (z_iload_n cd_X12_firstWhen_23 (j := 2) rfl rfl (p := 24) rfl (zgo rfl (z_bipush cd_X12_firstWhen_24 kb_60 (p := 26) rfl (zgo rfl (z_ic_gt cd_X12_firstWhen_26 (p := 55) rfl (p2 := 29) rfl (zgo rfl (z_bipush cd_X12_firstWhen_55 kb_m4 (p := 57) rfl (zgo rfl (z_iret cd_X12_firstWhen_57 rfl)))) (zgo rfl (z_aload_n cd_X12_firstWhen_29 (j := 0) rfl rfl (p := 30) rfl (zgo rfl (z_getR cd_X12_firstWhen_30 fd_X12_13 (p := 33) rfl (fun _ => (zgo rfl (z_cs1 cd_X12_firstWhen_33 (zs (key := 514) (by decide)) cl_X12_c514 rfl rfl rfl rfl (p := 36) rfl (fun _ => (zgo rfl (z_iload_n cd_X12_firstWhen_36 (j := 1) rfl rfl (p := 37) rfl (zgo rfl (z_ic_ne cd_X12_firstWhen_37 (p := 42) rfl (p2 := 40) rfl (zgo rfl (z_iload_n cd_X12_firstWhen_40 (j := 2) rfl rfl (p := 41) rfl (zgo rfl (z_iret cd_X12_firstWhen_41 rfl)))) (zgo rfl (z_aload_n cd_X12_firstWhen_42 (j := 0) rfl rfl (p := 43) rfl (zgo rfl (z_getR cd_X12_firstWhen_43 fd_X12_13 (p := 46) rfl (fun _ => (zgo rfl (z_cs0 cd_X12_firstWhen_46 (zs (key := 265) (by decide)) cl_X12_c265 rfl rfl rfl rfl (p := 49) rfl (fun _ => (zgo rfl (z_iinc cd_X12_firstWhen_49 ki_1 rfl rfl (p := 52) rfl (zgo rfl (z_goto cd_X12_firstWhen_52 (p := 23) rfl (zcut (p := 23) rfl rfl))))))))))))))))))))))))))))))
theorem cd_X12_degree_0 : ylk m_X12_degree.2.2.2.2.1 0 = some (.aload_n 0) := by decide +kernel
theorem cd_X12_degree_1 : ylk m_X12_degree.2.2.2.2.1 1 = some (.iload_n 1) := by decide +kernel
theorem cd_X12_degree_2 : ylk m_X12_degree.2.2.2.2.1 2 = some (.invokevirtual 114) := by decide +kernel
theorem cd_X12_degree_5 : ylk m_X12_degree.2.2.2.2.1 5 = some (.ifCond .eq 14) := by decide +kernel
theorem cd_X12_degree_8 : ylk m_X12_degree.2.2.2.2.1 8 = some (.iload_n 2) := by decide +kernel
theorem cd_X12_degree_9 : ylk m_X12_degree.2.2.2.2.1 9 = some (.iconst 1) := by decide +kernel
theorem cd_X12_degree_10 : ylk m_X12_degree.2.2.2.2.1 10 = some (.sipush 999) := by decide +kernel
theorem cd_X12_degree_13 : ylk m_X12_degree.2.2.2.2.1 13 = some (.invokestatic 46) := by decide +kernel
theorem cd_X12_degree_16 : ylk m_X12_degree.2.2.2.2.1 16 = some (.ifCond .ne 5) := by decide +kernel
theorem cd_X12_degree_19 : ylk m_X12_degree.2.2.2.2.1 19 = some (.iconst (-1)) := by decide +kernel
theorem cd_X12_degree_20 : ylk m_X12_degree.2.2.2.2.1 20 = some (.ireturn) := by decide +kernel
theorem cd_X12_degree_21 : ylk m_X12_degree.2.2.2.2.1 21 = some (.aload_n 0) := by decide +kernel
theorem cd_X12_degree_22 : ylk m_X12_degree.2.2.2.2.1 22 = some (.getfield 9) := by decide +kernel
theorem cd_X12_degree_25 : ylk m_X12_degree.2.2.2.2.1 25 = some (.aload_n 0) := by decide +kernel
theorem cd_X12_degree_26 : ylk m_X12_degree.2.2.2.2.1 26 = some (.getfield 13) := by decide +kernel
theorem cd_X12_degree_29 : ylk m_X12_degree.2.2.2.2.1 29 = some (.invokestatic 143) := by decide +kernel
theorem cd_X12_degree_32 : ylk m_X12_degree.2.2.2.2.1 32 = some (.iconst 0) := by decide +kernel
theorem cd_X12_degree_33 : ylk m_X12_degree.2.2.2.2.1 33 = some (.istore_n 3) := by decide +kernel
theorem cd_X12_degree_34 : ylk m_X12_degree.2.2.2.2.1 34 = some (.iload_n 3) := by decide +kernel
theorem cd_X12_degree_35 : ylk m_X12_degree.2.2.2.2.1 35 = some (.bipush 60) := by decide +kernel
theorem cd_X12_degree_37 : ylk m_X12_degree.2.2.2.2.1 37 = some (.if_icmp .gt 30) := by decide +kernel
theorem cd_X12_degree_40 : ylk m_X12_degree.2.2.2.2.1 40 = some (.aload_n 0) := by decide +kernel
theorem cd_X12_degree_41 : ylk m_X12_degree.2.2.2.2.1 41 = some (.getfield 13) := by decide +kernel
theorem cd_X12_degree_44 : ylk m_X12_degree.2.2.2.2.1 44 = some (.iload_n 1) := by decide +kernel
theorem cd_X12_degree_45 : ylk m_X12_degree.2.2.2.2.1 45 = some (.invokestatic 77) := by decide +kernel
theorem cd_X12_degree_48 : ylk m_X12_degree.2.2.2.2.1 48 = some (.iload_n 2) := by decide +kernel
theorem cd_X12_degree_49 : ylk m_X12_degree.2.2.2.2.1 49 = some (.if_icmp .lt 5) := by decide +kernel
theorem cd_X12_degree_52 : ylk m_X12_degree.2.2.2.2.1 52 = some (.iload_n 3) := by decide +kernel
theorem cd_X12_degree_53 : ylk m_X12_degree.2.2.2.2.1 53 = some (.ireturn) := by decide +kernel
theorem cd_X12_degree_54 : ylk m_X12_degree.2.2.2.2.1 54 = some (.aload_n 0) := by decide +kernel
theorem cd_X12_degree_55 : ylk m_X12_degree.2.2.2.2.1 55 = some (.getfield 13) := by decide +kernel
theorem cd_X12_degree_58 : ylk m_X12_degree.2.2.2.2.1 58 = some (.invokestatic 88) := by decide +kernel
theorem cd_X12_degree_61 : ylk m_X12_degree.2.2.2.2.1 61 = some (.iinc 3 1) := by decide +kernel
theorem cd_X12_degree_64 : ylk m_X12_degree.2.2.2.2.1 64 = some (.goto (-30)) := by decide +kernel
theorem cd_X12_degree_67 : ylk m_X12_degree.2.2.2.2.1 67 = some (.bipush (-4)) := by decide +kernel
theorem cd_X12_degree_69 : ylk m_X12_degree.2.2.2.2.1 69 = some (.ireturn) := by decide +kernel
noncomputable abbrev yb_X12_degree (C : yC) : ySt → Option (Option Value × yM) := yrn m_X12_degree C
theorem en_X12_degree (n : Nat) (A : yM) (v0 : Nat) (v1 : Int32) (v2 : Int32) : ycall (n + 1) 183 [.ref v0, .int v1, .int v2] A = (yi (yvt [(11, 144)] (ycall n) [.ref v0, .int v1] A)).bind (fun z1 => if z1.1 = 0 then (some (some (.int (-1 : Int32)), z1.2)) else ((yi ((ycall n) 138 [.int v2, .int (1 : Int32), .int (999 : Int32)] z1.2)).bind (fun z2 => if z2.1 = 0 then (some (some (.int (-1 : Int32)), z2.2)) else (ygR z2.2 v0 11 0 (fun a3 => ygR z2.2 v0 11 1 (fun a4 => (yv ((ycall n) 141 [.ref a3, .ref a4] z2.2)).bind (fun A5 => yb_X12_degree (ycall n) (34, [some (.ref v0), some (.int v1), some (.int v2), some (.int (0 : Int32))], [], A5)))))))) := (ybig_blk 17 _).trans (z_aload_n cd_X12_degree_0 (j := 0) rfl rfl (p := 1) rfl (zgo rfl (z_iload_n cd_X12_degree_1 (j := 1) rfl rfl (p := 2) rfl (zgo rfl (z_cv1 cd_X12_degree_2 (zv (key := 342) (by decide)) cl_X12_c342 rfl rfl rfl rfl (p := 5) rfl (fun _ => (zgo rfl (z_if_eq cd_X12_degree_5 (p := 19) rfl (p2 := 8) rfl (zgo rfl (z_iconst cd_X12_degree_19 ki_m1 (p := 20) rfl (zgo rfl (z_iret cd_X12_degree_20 rfl)))) (zgo rfl (z_iload_n cd_X12_degree_8 (j := 2) rfl rfl (p := 9) rfl (zgo rfl (z_iconst cd_X12_degree_9 ki_1 (p := 10) rfl (zgo rfl (z_sipush cd_X12_degree_10 ks_999 (p := 13) rfl (zgo rfl (z_cs1 cd_X12_degree_13 (zs (key := 139) (by decide)) cl_X12_c139 rfl rfl rfl rfl (p := 16) rfl (fun _ => (zgo rfl (z_if_ne cd_X12_degree_16 (p := 21) rfl (p2 := 19) rfl (zgo rfl (z_iconst cd_X12_degree_19 ki_m1 (p := 20) rfl (zgo rfl (z_iret cd_X12_degree_20 rfl)))) (zgo rfl (z_aload_n cd_X12_degree_21 (j := 0) rfl rfl (p := 22) rfl (zgo rfl (z_getR cd_X12_degree_22 fd_X12_9 (p := 25) rfl (fun _ => (zgo rfl (z_aload_n cd_X12_degree_25 (j := 0) rfl rfl (p := 26) rfl (zgo rfl (z_getR cd_X12_degree_26 fd_X12_13 (p := 29) rfl (fun _ => (zgo rfl (z_cs0 cd_X12_degree_29 (zs (key := 430) (by decide)) cl_X12_c430 rfl rfl rfl rfl (p := 32) rfl (fun _ => (zgo rfl (z_iconst cd_X12_degree_32 ki_0 (p := 33) rfl (zgo rfl (z_istore_n cd_X12_degree_33 (j := 3) rfl rfl (p := 34) rfl (zcut (p := 34) rfl rfl)))))))))))))))))))))))))))))))))))))
theorem bk_X12_degree_34 (C : yC) (A : yM) (v0 : Nat) (v1 : Int32) (v2 : Int32) (v3 : Int32) : yb_X12_degree C (34, [some (.ref v0), some (.int v1), some (.int v2), some (.int v3)], [], A) = if (60 : Int32) < v3 then (some (some (.int (-4 : Int32)), A)) else (ygR A v0 11 1 (fun a1 => (yi (C 154 [.ref a1, .int v1] A)).bind (fun z2 => if z2.1 < v2 then (ygR z2.2 v0 11 1 (fun a3 => (yv (C 158 [.ref a3] z2.2)).bind (fun A4 => yb_X12_degree C (34, [some (.ref v0), some (.int v1), some (.int v2), some (.int (v3 + (1 : Int32)))], [], A4)))) else (some (some (.int v3), z2.2))))) := (ybig_blk 15 _).trans (z_iload_n cd_X12_degree_34 (j := 3) rfl rfl (p := 35) rfl (zgo rfl (z_bipush cd_X12_degree_35 kb_60 (p := 37) rfl (zgo rfl (z_ic_gt cd_X12_degree_37 (p := 67) rfl (p2 := 40) rfl (zgo rfl (z_bipush cd_X12_degree_67 kb_m4 (p := 69) rfl (zgo rfl (z_iret cd_X12_degree_69 rfl)))) (zgo rfl (z_aload_n cd_X12_degree_40 (j := 0) rfl rfl (p := 41) rfl (zgo rfl (z_getR cd_X12_degree_41 fd_X12_13 (p := 44) rfl (fun _ => (zgo rfl (z_iload_n cd_X12_degree_44 (j := 1) rfl rfl (p := 45) rfl (zgo rfl (z_cs1 cd_X12_degree_45 (zs (key := 232) (by decide)) cl_X12_c232 rfl rfl rfl rfl (p := 48) rfl (fun _ => (zgo rfl (z_iload_n cd_X12_degree_48 (j := 2) rfl rfl (p := 49) rfl (zgo rfl (z_ic_lt cd_X12_degree_49 (p := 54) rfl (p2 := 52) rfl (zgo rfl (z_aload_n cd_X12_degree_54 (j := 0) rfl rfl (p := 55) rfl (zgo rfl (z_getR cd_X12_degree_55 fd_X12_13 (p := 58) rfl (fun _ => (zgo rfl (z_cs0 cd_X12_degree_58 (zs (key := 265) (by decide)) cl_X12_c265 rfl rfl rfl rfl (p := 61) rfl (fun _ => (zgo rfl (z_iinc cd_X12_degree_61 ki_1 rfl rfl (p := 64) rfl (zgo rfl (z_goto cd_X12_degree_64 (p := 34) rfl (zcut (p := 34) rfl rfl))))))))))))) (zgo rfl (z_iload_n cd_X12_degree_52 (j := 3) rfl rfl (p := 53) rfl (zgo rfl (z_iret cd_X12_degree_53 rfl)))))))))))))))))))))))
theorem cd_X12_next_0 : ylk m_X12_next.2.2.2.2.1 0 = some (.aload_n 0) := by decide +kernel
theorem cd_X12_next_1 : ylk m_X12_next.2.2.2.2.1 1 = some (.iload_n 1) := by decide +kernel
theorem cd_X12_next_2 : ylk m_X12_next.2.2.2.2.1 2 = some (.invokevirtual 114) := by decide +kernel
theorem cd_X12_next_5 : ylk m_X12_next.2.2.2.2.1 5 = some (.ifCond .ne 5) := by decide +kernel
theorem cd_X12_next_8 : ylk m_X12_next.2.2.2.2.1 8 = some (.iconst (-1)) := by decide +kernel
theorem cd_X12_next_9 : ylk m_X12_next.2.2.2.2.1 9 = some (.ireturn) := by decide +kernel
theorem cd_X12_next_10 : ylk m_X12_next.2.2.2.2.1 10 = some (.aload_n 0) := by decide +kernel
theorem cd_X12_next_11 : ylk m_X12_next.2.2.2.2.1 11 = some (.getfield 9) := by decide +kernel
theorem cd_X12_next_14 : ylk m_X12_next.2.2.2.2.1 14 = some (.iconst 1) := by decide +kernel
theorem cd_X12_next_15 : ylk m_X12_next.2.2.2.2.1 15 = some (.iaload) := by decide +kernel
theorem cd_X12_next_16 : ylk m_X12_next.2.2.2.2.1 16 = some (.bipush 12) := by decide +kernel
theorem cd_X12_next_18 : ylk m_X12_next.2.2.2.2.1 18 = some (.if_icmp .eq 14) := by decide +kernel
theorem cd_X12_next_21 : ylk m_X12_next.2.2.2.2.1 21 = some (.aload_n 0) := by decide +kernel
theorem cd_X12_next_22 : ylk m_X12_next.2.2.2.2.1 22 = some (.getfield 9) := by decide +kernel
theorem cd_X12_next_25 : ylk m_X12_next.2.2.2.2.1 25 = some (.iload_n 1) := by decide +kernel
theorem cd_X12_next_26 : ylk m_X12_next.2.2.2.2.1 26 = some (.invokestatic 80) := by decide +kernel
theorem cd_X12_next_29 : ylk m_X12_next.2.2.2.2.1 29 = some (.ifCond .ne 6) := by decide +kernel
theorem cd_X12_next_32 : ylk m_X12_next.2.2.2.2.1 32 = some (.bipush (-4)) := by decide +kernel
theorem cd_X12_next_34 : ylk m_X12_next.2.2.2.2.1 34 = some (.ireturn) := by decide +kernel
theorem cd_X12_next_35 : ylk m_X12_next.2.2.2.2.1 35 = some (.bipush (-4)) := by decide +kernel
theorem cd_X12_next_37 : ylk m_X12_next.2.2.2.2.1 37 = some (.istore_n 2) := by decide +kernel
theorem cd_X12_next_38 : ylk m_X12_next.2.2.2.2.1 38 = some (.iconst (-1)) := by decide +kernel
theorem cd_X12_next_39 : ylk m_X12_next.2.2.2.2.1 39 = some (.istore_n 3) := by decide +kernel
theorem cd_X12_next_40 : ylk m_X12_next.2.2.2.2.1 40 = some (.iconst 0) := by decide +kernel
theorem cd_X12_next_41 : ylk m_X12_next.2.2.2.2.1 41 = some (.istore 4) := by decide +kernel
theorem cd_X12_next_43 : ylk m_X12_next.2.2.2.2.1 43 = some (.iload 4) := by decide +kernel
theorem cd_X12_next_45 : ylk m_X12_next.2.2.2.2.1 45 = some (.sipush 600) := by decide +kernel
theorem cd_X12_next_48 : ylk m_X12_next.2.2.2.2.1 48 = some (.if_icmp .ge 65) := by decide +kernel
theorem cd_X12_next_51 : ylk m_X12_next.2.2.2.2.1 51 = some (.aload_n 0) := by decide +kernel
theorem cd_X12_next_52 : ylk m_X12_next.2.2.2.2.1 52 = some (.getfield 9) := by decide +kernel
theorem cd_X12_next_55 : ylk m_X12_next.2.2.2.2.1 55 = some (.aload_n 0) := by decide +kernel
theorem cd_X12_next_56 : ylk m_X12_next.2.2.2.2.1 56 = some (.getfield 13) := by decide +kernel
theorem cd_X12_next_59 : ylk m_X12_next.2.2.2.2.1 59 = some (.invokestatic 143) := by decide +kernel
theorem cd_X12_next_62 : ylk m_X12_next.2.2.2.2.1 62 = some (.aload_n 0) := by decide +kernel
theorem cd_X12_next_63 : ylk m_X12_next.2.2.2.2.1 63 = some (.getfield 13) := by decide +kernel
theorem cd_X12_next_66 : ylk m_X12_next.2.2.2.2.1 66 = some (.iload_n 1) := by decide +kernel
theorem cd_X12_next_67 : ylk m_X12_next.2.2.2.2.1 67 = some (.iload 4) := by decide +kernel
theorem cd_X12_next_69 : ylk m_X12_next.2.2.2.2.1 69 = some (.bipush 100) := by decide +kernel
theorem cd_X12_next_71 : ylk m_X12_next.2.2.2.2.1 71 = some (.idiv) := by decide +kernel
theorem cd_X12_next_72 : ylk m_X12_next.2.2.2.2.1 72 = some (.iload 4) := by decide +kernel
theorem cd_X12_next_74 : ylk m_X12_next.2.2.2.2.1 74 = some (.bipush 100) := by decide +kernel
theorem cd_X12_next_76 : ylk m_X12_next.2.2.2.2.1 76 = some (.irem) := by decide +kernel
theorem cd_X12_next_77 : ylk m_X12_next.2.2.2.2.1 77 = some (.bipush 99) := by decide +kernel
theorem cd_X12_next_79 : ylk m_X12_next.2.2.2.2.1 79 = some (.invokestatic 121) := by decide +kernel
theorem cd_X12_next_82 : ylk m_X12_next.2.2.2.2.1 82 = some (.aload_n 0) := by decide +kernel
theorem cd_X12_next_83 : ylk m_X12_next.2.2.2.2.1 83 = some (.getfield 13) := by decide +kernel
theorem cd_X12_next_86 : ylk m_X12_next.2.2.2.2.1 86 = some (.iload_n 1) := by decide +kernel
theorem cd_X12_next_87 : ylk m_X12_next.2.2.2.2.1 87 = some (.invokestatic 77) := by decide +kernel
theorem cd_X12_next_90 : ylk m_X12_next.2.2.2.2.1 90 = some (.istore 5) := by decide +kernel
theorem cd_X12_next_92 : ylk m_X12_next.2.2.2.2.1 92 = some (.iload 5) := by decide +kernel
theorem cd_X12_next_94 : ylk m_X12_next.2.2.2.2.1 94 = some (.iload_n 3) := by decide +kernel
theorem cd_X12_next_95 : ylk m_X12_next.2.2.2.2.1 95 = some (.if_icmp .gt 6) := by decide +kernel
theorem cd_X12_next_98 : ylk m_X12_next.2.2.2.2.1 98 = some (.goto 9) := by decide +kernel
theorem cd_X12_next_101 : ylk m_X12_next.2.2.2.2.1 101 = some (.iload 4) := by decide +kernel
theorem cd_X12_next_103 : ylk m_X12_next.2.2.2.2.1 103 = some (.istore_n 2) := by decide +kernel
theorem cd_X12_next_104 : ylk m_X12_next.2.2.2.2.1 104 = some (.iload 5) := by decide +kernel
theorem cd_X12_next_106 : ylk m_X12_next.2.2.2.2.1 106 = some (.istore_n 3) := by decide +kernel
theorem cd_X12_next_107 : ylk m_X12_next.2.2.2.2.1 107 = some (.iinc 4 1) := by decide +kernel
theorem cd_X12_next_110 : ylk m_X12_next.2.2.2.2.1 110 = some (.goto (-67)) := by decide +kernel
theorem cd_X12_next_113 : ylk m_X12_next.2.2.2.2.1 113 = some (.iload_n 2) := by decide +kernel
theorem cd_X12_next_114 : ylk m_X12_next.2.2.2.2.1 114 = some (.ireturn) := by decide +kernel
noncomputable abbrev yb_X12_next (C : yC) : ySt → Option (Option Value × yM) := yrn m_X12_next C
theorem en_X12_next (n : Nat) (A : yM) (v0 : Nat) (v1 : Int32) : ycall (n + 1) 184 [.ref v0, .int v1] A = (yi (yvt [(11, 144)] (ycall n) [.ref v0, .int v1] A)).bind (fun z1 => if z1.1 = 0 then (some (some (.int (-1 : Int32)), z1.2)) else (ygR z1.2 v0 11 0 (fun a2 => yrd z1.2 a2 (1 : Int32) (fun x3 => if x3 = (12 : Int32) then (some (some (.int (-4 : Int32)), z1.2)) else (ygR z1.2 v0 11 0 (fun a4 => (yi ((ycall n) 146 [.ref a4, .int v1] z1.2)).bind (fun z5 => if z5.1 = 0 then (some (some (.int (-4 : Int32)), z5.2)) else (yb_X12_next (ycall n) (43, [some (.ref v0), some (.int v1), some (.int (-4 : Int32)), some (.int (-1 : Int32)), some (.int (0 : Int32)), none], [], z5.2))))))))) := (ybig_blk 22 _).trans (z_aload_n cd_X12_next_0 (j := 0) rfl rfl (p := 1) rfl (zgo rfl (z_iload_n cd_X12_next_1 (j := 1) rfl rfl (p := 2) rfl (zgo rfl (z_cv1 cd_X12_next_2 (zv (key := 342) (by decide)) cl_X12_c342 rfl rfl rfl rfl (p := 5) rfl (fun _ => (zgo rfl (z_if_ne cd_X12_next_5 (p := 10) rfl (p2 := 8) rfl (zgo rfl (z_iconst cd_X12_next_8 ki_m1 (p := 9) rfl (zgo rfl (z_iret cd_X12_next_9 rfl)))) (zgo rfl (z_aload_n cd_X12_next_10 (j := 0) rfl rfl (p := 11) rfl (zgo rfl (z_getR cd_X12_next_11 fd_X12_9 (p := 14) rfl (fun _ => (zgo rfl (z_iconst cd_X12_next_14 ki_1 (p := 15) rfl (zgo rfl (z_iaload cd_X12_next_15 (p := 16) rfl (fun _ => (zgo rfl (z_bipush cd_X12_next_16 kb_12 (p := 18) rfl (zgo rfl (z_ic_eq cd_X12_next_18 (p := 32) rfl (p2 := 21) rfl (zgo rfl (z_bipush cd_X12_next_32 kb_m4 (p := 34) rfl (zgo rfl (z_iret cd_X12_next_34 rfl)))) (zgo rfl (z_aload_n cd_X12_next_21 (j := 0) rfl rfl (p := 22) rfl (zgo rfl (z_getR cd_X12_next_22 fd_X12_9 (p := 25) rfl (fun _ => (zgo rfl (z_iload_n cd_X12_next_25 (j := 1) rfl rfl (p := 26) rfl (zgo rfl (z_cs1 cd_X12_next_26 (zs (key := 241) (by decide)) cl_X12_c241 rfl rfl rfl rfl (p := 29) rfl (fun _ => (zgo rfl (z_if_ne cd_X12_next_29 (p := 35) rfl (p2 := 32) rfl (zgo rfl (z_bipush cd_X12_next_32 kb_m4 (p := 34) rfl (zgo rfl (z_iret cd_X12_next_34 rfl)))) (zgo rfl (z_bipush cd_X12_next_35 kb_m4 (p := 37) rfl (zgo rfl (z_istore_n cd_X12_next_37 (j := 2) rfl rfl (p := 38) rfl (zgo rfl (z_iconst cd_X12_next_38 ki_m1 (p := 39) rfl (zgo rfl (z_istore_n cd_X12_next_39 (j := 3) rfl rfl (p := 40) rfl (zgo rfl (z_iconst cd_X12_next_40 ki_0 (p := 41) rfl (zgo rfl (z_istore cd_X12_next_41 rfl (p := 43) rfl (zcut (p := 43) rfl rfl)))))))))))))))))))))))))))))))))))))))))))))))
theorem bk_X12_next_43 (C : yC) (A : yM) (v0 : Nat) (v1 : Int32) (v2 : Int32) (v3 : Int32) (v4 : Int32) : yb_X12_next C (43, [some (.ref v0), some (.int v1), some (.int v2), some (.int v3), some (.int v4), none], [], A) = if (600 : Int32) ≤ v4 then (some (some (.int v2), A)) else (ygR A v0 11 0 (fun a1 => ygR A v0 11 1 (fun a2 => (yv (C 141 [.ref a1, .ref a2] A)).bind (fun A3 => ygR A3 v0 11 1 (fun a4 => if (100 : Int32) = 0 then none else (if (100 : Int32) = 0 then none else ((yv (C 160 [.ref a4, .int v1, .int (v4 / (100 : Int32)), .int (v4 - v4 / (100 : Int32) * (100 : Int32)), .int (99 : Int32)] A3)).bind (fun A5 => ygR A5 v0 11 1 (fun a6 => (yi (C 154 [.ref a6, .int v1] A5)).bind (fun z7 => if v3 < z7.1 then (yb_X12_next C (43, [some (.ref v0), some (.int v1), some (.int v4), some (.int z7.1), some (.int (v4 + (1 : Int32))), none], [], z7.2)) else (yb_X12_next C (43, [some (.ref v0), some (.int v1), some (.int v2), some (.int v3), some (.int (v4 + (1 : Int32))), none], [], z7.2)))))))))))) := (ybig_blk 34 _).trans (z_iload cd_X12_next_43 rfl (p := 45) rfl (zgo rfl (z_sipush cd_X12_next_45 ks_600 (p := 48) rfl (zgo rfl (z_ic_ge cd_X12_next_48 (p := 113) rfl (p2 := 51) rfl (zgo rfl (z_iload_n cd_X12_next_113 (j := 2) rfl rfl (p := 114) rfl (zgo rfl (z_iret cd_X12_next_114 rfl)))) (zgo rfl (z_aload_n cd_X12_next_51 (j := 0) rfl rfl (p := 52) rfl (zgo rfl (z_getR cd_X12_next_52 fd_X12_9 (p := 55) rfl (fun _ => (zgo rfl (z_aload_n cd_X12_next_55 (j := 0) rfl rfl (p := 56) rfl (zgo rfl (z_getR cd_X12_next_56 fd_X12_13 (p := 59) rfl (fun _ => (zgo rfl (z_cs0 cd_X12_next_59 (zs (key := 430) (by decide)) cl_X12_c430 rfl rfl rfl rfl (p := 62) rfl (fun _ => (zgo rfl (z_aload_n cd_X12_next_62 (j := 0) rfl rfl (p := 63) rfl (zgo rfl (z_getR cd_X12_next_63 fd_X12_13 (p := 66) rfl (fun _ => (zgo rfl (z_iload_n cd_X12_next_66 (j := 1) rfl rfl (p := 67) rfl (zgo rfl (z_iload cd_X12_next_67 rfl (p := 69) rfl (zgo rfl (z_bipush cd_X12_next_69 kb_100 (p := 71) rfl (zgo rfl (z_idiv cd_X12_next_71 (p := 72) rfl (zgo rfl (z_iload cd_X12_next_72 rfl (p := 74) rfl (zgo rfl (z_bipush cd_X12_next_74 kb_100 (p := 76) rfl (zgo rfl (z_irem cd_X12_next_76 (p := 77) rfl (zgo rfl (z_bipush cd_X12_next_77 kb_99 (p := 79) rfl (zgo rfl (z_cs0 cd_X12_next_79 (zs (key := 364) (by decide)) cl_X12_c364 rfl rfl rfl rfl (p := 82) rfl (fun _ => (zgo rfl (z_aload_n cd_X12_next_82 (j := 0) rfl rfl (p := 83) rfl (zgo rfl (z_getR cd_X12_next_83 fd_X12_13 (p := 86) rfl (fun _ => (zgo rfl (z_iload_n cd_X12_next_86 (j := 1) rfl rfl (p := 87) rfl (zgo rfl (z_cs1 cd_X12_next_87 (zs (key := 232) (by decide)) cl_X12_c232 rfl rfl rfl rfl (p := 90) rfl (fun _ => (zgo rfl (z_istore cd_X12_next_90 rfl (p := 92) rfl (zgo rfl (z_iload cd_X12_next_92 rfl (p := 94) rfl (zgo rfl (z_iload_n cd_X12_next_94 (j := 3) rfl rfl (p := 95) rfl (zgo rfl (z_ic_gt cd_X12_next_95 (p := 101) rfl (p2 := 98) rfl (zgo rfl (z_iload cd_X12_next_101 rfl (p := 103) rfl (zgo rfl (z_istore_n cd_X12_next_103 (j := 2) rfl rfl (p := 104) rfl (zgo rfl (z_iload cd_X12_next_104 rfl (p := 106) rfl (zgo rfl (z_istore_n cd_X12_next_106 (j := 3) rfl rfl (p := 107) rfl (zgo rfl (z_iinc cd_X12_next_107 ki_1 rfl rfl (p := 110) rfl (zgo rfl (z_goto cd_X12_next_110 (p := 43) rfl (zcut (p := 43) rfl rfl))))))))))))) (zgo rfl (z_goto cd_X12_next_98 (p := 107) rfl (zgo rfl (z_iinc cd_X12_next_107 ki_1 rfl rfl (p := 110) rfl (zgo rfl (z_goto cd_X12_next_110 (p := 43) rfl (zcut (p := 43) rfl rfl)))))))))))))))))))))))))))))))))))))))))))))))))))))))))))))))))))
theorem cd_X12_farFrom_0 : ylk m_X12_farFrom.2.2.2.2.1 0 = some (.bipush 99) := by decide +kernel
theorem cd_X12_farFrom_2 : ylk m_X12_farFrom.2.2.2.2.1 2 = some (.istore_n 3) := by decide +kernel
theorem cd_X12_farFrom_3 : ylk m_X12_farFrom.2.2.2.2.1 3 = some (.iconst 0) := by decide +kernel
theorem cd_X12_farFrom_4 : ylk m_X12_farFrom.2.2.2.2.1 4 = some (.istore 4) := by decide +kernel
theorem cd_X12_farFrom_6 : ylk m_X12_farFrom.2.2.2.2.1 6 = some (.iload 4) := by decide +kernel
theorem cd_X12_farFrom_8 : ylk m_X12_farFrom.2.2.2.2.1 8 = some (.aload_n 0) := by decide +kernel
theorem cd_X12_farFrom_9 : ylk m_X12_farFrom.2.2.2.2.1 9 = some (.getfield 9) := by decide +kernel
theorem cd_X12_farFrom_12 : ylk m_X12_farFrom.2.2.2.2.1 12 = some (.iconst 1) := by decide +kernel
theorem cd_X12_farFrom_13 : ylk m_X12_farFrom.2.2.2.2.1 13 = some (.iaload) := by decide +kernel
theorem cd_X12_farFrom_14 : ylk m_X12_farFrom.2.2.2.2.1 14 = some (.if_icmp .ge 44) := by decide +kernel
theorem cd_X12_farFrom_17 : ylk m_X12_farFrom.2.2.2.2.1 17 = some (.aload_n 0) := by decide +kernel
theorem cd_X12_farFrom_18 : ylk m_X12_farFrom.2.2.2.2.1 18 = some (.getfield 9) := by decide +kernel
theorem cd_X12_farFrom_21 : ylk m_X12_farFrom.2.2.2.2.1 21 = some (.iload 4) := by decide +kernel
theorem cd_X12_farFrom_23 : ylk m_X12_farFrom.2.2.2.2.1 23 = some (.iconst 1) := by decide +kernel
theorem cd_X12_farFrom_24 : ylk m_X12_farFrom.2.2.2.2.1 24 = some (.invokestatic 54) := by decide +kernel
theorem cd_X12_farFrom_27 : ylk m_X12_farFrom.2.2.2.2.1 27 = some (.iaload) := by decide +kernel
theorem cd_X12_farFrom_28 : ylk m_X12_farFrom.2.2.2.2.1 28 = some (.iload_n 1) := by decide +kernel
theorem cd_X12_farFrom_29 : ylk m_X12_farFrom.2.2.2.2.1 29 = some (.if_icmp .ne 23) := by decide +kernel
theorem cd_X12_farFrom_32 : ylk m_X12_farFrom.2.2.2.2.1 32 = some (.iload_n 3) := by decide +kernel
theorem cd_X12_farFrom_33 : ylk m_X12_farFrom.2.2.2.2.1 33 = some (.aload_n 0) := by decide +kernel
theorem cd_X12_farFrom_34 : ylk m_X12_farFrom.2.2.2.2.1 34 = some (.getfield 9) := by decide +kernel
theorem cd_X12_farFrom_37 : ylk m_X12_farFrom.2.2.2.2.1 37 = some (.iload 4) := by decide +kernel
theorem cd_X12_farFrom_39 : ylk m_X12_farFrom.2.2.2.2.1 39 = some (.iconst 2) := by decide +kernel
theorem cd_X12_farFrom_40 : ylk m_X12_farFrom.2.2.2.2.1 40 = some (.invokestatic 54) := by decide +kernel
theorem cd_X12_farFrom_43 : ylk m_X12_farFrom.2.2.2.2.1 43 = some (.iaload) := by decide +kernel
theorem cd_X12_farFrom_44 : ylk m_X12_farFrom.2.2.2.2.1 44 = some (.iload_n 2) := by decide +kernel
theorem cd_X12_farFrom_45 : ylk m_X12_farFrom.2.2.2.2.1 45 = some (.invokestatic 57) := by decide +kernel
theorem cd_X12_farFrom_48 : ylk m_X12_farFrom.2.2.2.2.1 48 = some (.invokestatic 60) := by decide +kernel
theorem cd_X12_farFrom_51 : ylk m_X12_farFrom.2.2.2.2.1 51 = some (.istore_n 3) := by decide +kernel
theorem cd_X12_farFrom_52 : ylk m_X12_farFrom.2.2.2.2.1 52 = some (.iinc 4 1) := by decide +kernel
theorem cd_X12_farFrom_55 : ylk m_X12_farFrom.2.2.2.2.1 55 = some (.goto (-49)) := by decide +kernel
theorem cd_X12_farFrom_58 : ylk m_X12_farFrom.2.2.2.2.1 58 = some (.iload_n 3) := by decide +kernel
theorem cd_X12_farFrom_59 : ylk m_X12_farFrom.2.2.2.2.1 59 = some (.ireturn) := by decide +kernel
noncomputable abbrev yb_X12_farFrom (C : yC) : ySt → Option (Option Value × yM) := yrn m_X12_farFrom C
theorem en_X12_farFrom (n : Nat) (A : yM) (v0 : Nat) (v1 : Int32) (v2 : Int32) : ycall (n + 1) 185 [.ref v0, .int v1, .int v2] A = yb_X12_farFrom (ycall n) (6, [some (.ref v0), some (.int v1), some (.int v2), some (.int (99 : Int32)), some (.int (0 : Int32))], [], A) := (ybig_blk 5 _).trans (z_bipush cd_X12_farFrom_0 kb_99 (p := 2) rfl (zgo rfl (z_istore_n cd_X12_farFrom_2 (j := 3) rfl rfl (p := 3) rfl (zgo rfl (z_iconst cd_X12_farFrom_3 ki_0 (p := 4) rfl (zgo rfl (z_istore cd_X12_farFrom_4 rfl (p := 6) rfl (zcut (p := 6) rfl rfl))))))))
theorem bk_X12_farFrom_6 (C : yC) (A : yM) (v0 : Nat) (v1 : Int32) (v2 : Int32) (v3 : Int32) (v4 : Int32) : yb_X12_farFrom C (6, [some (.ref v0), some (.int v1), some (.int v2), some (.int v3), some (.int v4)], [], A) = ygR A v0 11 0 (fun a1 => yrd A a1 (1 : Int32) (fun x2 => if x2 ≤ v4 then (some (some (.int v3), A)) else (ygR A v0 11 0 (fun a3 => (yi (C 143 [.int v4, .int (1 : Int32)] A)).bind (fun z4 => yrd z4.2 a3 z4.1 (fun x5 => if x5 = v1 then (ygR z4.2 v0 11 0 (fun a6 => (yi (C 143 [.int v4, .int (2 : Int32)] z4.2)).bind (fun z7 => yrd z7.2 a6 z7.1 (fun x8 => (yi (C 140 [.int x8, .int v2] z7.2)).bind (fun z9 => (yi (C 139 [.int v3, .int z9.1] z9.2)).bind (fun z10 => yb_X12_farFrom C (6, [some (.ref v0), some (.int v1), some (.int v2), some (.int z10.1), some (.int (v4 + (1 : Int32)))], [], z10.2))))))) else (yb_X12_farFrom C (6, [some (.ref v0), some (.int v1), some (.int v2), some (.int v3), some (.int (v4 + (1 : Int32)))], [], z4.2)))))))) := (ybig_blk 28 _).trans (z_iload cd_X12_farFrom_6 rfl (p := 8) rfl (zgo rfl (z_aload_n cd_X12_farFrom_8 (j := 0) rfl rfl (p := 9) rfl (zgo rfl (z_getR cd_X12_farFrom_9 fd_X12_9 (p := 12) rfl (fun _ => (zgo rfl (z_iconst cd_X12_farFrom_12 ki_1 (p := 13) rfl (zgo rfl (z_iaload cd_X12_farFrom_13 (p := 14) rfl (fun _ => (zgo rfl (z_ic_ge cd_X12_farFrom_14 (p := 58) rfl (p2 := 17) rfl (zgo rfl (z_iload_n cd_X12_farFrom_58 (j := 3) rfl rfl (p := 59) rfl (zgo rfl (z_iret cd_X12_farFrom_59 rfl)))) (zgo rfl (z_aload_n cd_X12_farFrom_17 (j := 0) rfl rfl (p := 18) rfl (zgo rfl (z_getR cd_X12_farFrom_18 fd_X12_9 (p := 21) rfl (fun _ => (zgo rfl (z_iload cd_X12_farFrom_21 rfl (p := 23) rfl (zgo rfl (z_iconst cd_X12_farFrom_23 ki_1 (p := 24) rfl (zgo rfl (z_cs1 cd_X12_farFrom_24 (zs (key := 163) (by decide)) cl_X12_c163 rfl rfl rfl rfl (p := 27) rfl (fun _ => (zgo rfl (z_iaload cd_X12_farFrom_27 (p := 28) rfl (fun _ => (zgo rfl (z_iload_n cd_X12_farFrom_28 (j := 1) rfl rfl (p := 29) rfl (zgo rfl (z_ic_ne cd_X12_farFrom_29 (p := 52) rfl (p2 := 32) rfl (zgo rfl (z_iload_n cd_X12_farFrom_32 (j := 3) rfl rfl (p := 33) rfl (zgo rfl (z_aload_n cd_X12_farFrom_33 (j := 0) rfl rfl (p := 34) rfl (zgo rfl (z_getR cd_X12_farFrom_34 fd_X12_9 (p := 37) rfl (fun _ => (zgo rfl (z_iload cd_X12_farFrom_37 rfl (p := 39) rfl (zgo rfl (z_iconst cd_X12_farFrom_39 ki_2 (p := 40) rfl (zgo rfl (z_cs1 cd_X12_farFrom_40 (zs (key := 163) (by decide)) cl_X12_c163 rfl rfl rfl rfl (p := 43) rfl (fun _ => (zgo rfl (z_iaload cd_X12_farFrom_43 (p := 44) rfl (fun _ => (zgo rfl (z_iload_n cd_X12_farFrom_44 (j := 2) rfl rfl (p := 45) rfl (zgo rfl (z_cs1 cd_X12_farFrom_45 (zs (key := 172) (by decide)) cl_X12_c172 rfl rfl rfl rfl (p := 48) rfl (fun _ => (zgo rfl (z_cs1 cd_X12_farFrom_48 (zs (key := 181) (by decide)) cl_X12_c181 rfl rfl rfl rfl (p := 51) rfl (fun _ => (zgo rfl (z_istore_n cd_X12_farFrom_51 (j := 3) rfl rfl (p := 52) rfl (zgo rfl (z_iinc cd_X12_farFrom_52 ki_1 rfl rfl (p := 55) rfl (zgo rfl (z_goto cd_X12_farFrom_55 (p := 6) rfl (zcut (p := 6) rfl rfl)))))))))))))))))))))))))))))))) (zgo rfl (z_iinc cd_X12_farFrom_52 ki_1 rfl rfl (p := 55) rfl (zgo rfl (z_goto cd_X12_farFrom_55 (p := 6) rfl (zcut (p := 6) rfl rfl)))))))))))))))))))))))))))))))))))))
theorem cd_X12_farthest_0 : ylk m_X12_farthest.2.2.2.2.1 0 = some (.iload_n 1) := by decide +kernel
theorem cd_X12_farthest_1 : ylk m_X12_farthest.2.2.2.2.1 1 = some (.iconst 0) := by decide +kernel
theorem cd_X12_farthest_2 : ylk m_X12_farthest.2.2.2.2.1 2 = some (.iconst 5) := by decide +kernel
theorem cd_X12_farthest_3 : ylk m_X12_farthest.2.2.2.2.1 3 = some (.invokestatic 46) := by decide +kernel
theorem cd_X12_farthest_6 : ylk m_X12_farthest.2.2.2.2.1 6 = some (.ifCond .eq 12) := by decide +kernel
theorem cd_X12_farthest_9 : ylk m_X12_farthest.2.2.2.2.1 9 = some (.iload_n 2) := by decide +kernel
theorem cd_X12_farthest_10 : ylk m_X12_farthest.2.2.2.2.1 10 = some (.iconst 0) := by decide +kernel
theorem cd_X12_farthest_11 : ylk m_X12_farthest.2.2.2.2.1 11 = some (.iconst 1) := by decide +kernel
theorem cd_X12_farthest_12 : ylk m_X12_farthest.2.2.2.2.1 12 = some (.invokestatic 46) := by decide +kernel
theorem cd_X12_farthest_15 : ylk m_X12_farthest.2.2.2.2.1 15 = some (.ifCond .ne 5) := by decide +kernel
theorem cd_X12_farthest_18 : ylk m_X12_farthest.2.2.2.2.1 18 = some (.iconst (-1)) := by decide +kernel
theorem cd_X12_farthest_19 : ylk m_X12_farthest.2.2.2.2.1 19 = some (.ireturn) := by decide +kernel
theorem cd_X12_farthest_20 : ylk m_X12_farthest.2.2.2.2.1 20 = some (.iconst 0) := by decide +kernel
theorem cd_X12_farthest_21 : ylk m_X12_farthest.2.2.2.2.1 21 = some (.istore_n 3) := by decide +kernel
theorem cd_X12_farthest_22 : ylk m_X12_farthest.2.2.2.2.1 22 = some (.iconst 0) := by decide +kernel
theorem cd_X12_farthest_23 : ylk m_X12_farthest.2.2.2.2.1 23 = some (.istore 4) := by decide +kernel
theorem cd_X12_farthest_25 : ylk m_X12_farthest.2.2.2.2.1 25 = some (.iload 4) := by decide +kernel
theorem cd_X12_farthest_27 : ylk m_X12_farthest.2.2.2.2.1 27 = some (.bipush 100) := by decide +kernel
theorem cd_X12_farthest_29 : ylk m_X12_farthest.2.2.2.2.1 29 = some (.if_icmp .ge 28) := by decide +kernel
theorem cd_X12_farthest_32 : ylk m_X12_farthest.2.2.2.2.1 32 = some (.aload_n 0) := by decide +kernel
theorem cd_X12_farthest_33 : ylk m_X12_farthest.2.2.2.2.1 33 = some (.iload_n 1) := by decide +kernel
theorem cd_X12_farthest_34 : ylk m_X12_farthest.2.2.2.2.1 34 = some (.iload 4) := by decide +kernel
theorem cd_X12_farthest_36 : ylk m_X12_farthest.2.2.2.2.1 36 = some (.invokevirtual 174) := by decide +kernel
theorem cd_X12_farthest_39 : ylk m_X12_farthest.2.2.2.2.1 39 = some (.aload_n 0) := by decide +kernel
theorem cd_X12_farthest_40 : ylk m_X12_farthest.2.2.2.2.1 40 = some (.iload_n 1) := by decide +kernel
theorem cd_X12_farthest_41 : ylk m_X12_farthest.2.2.2.2.1 41 = some (.iload_n 3) := by decide +kernel
theorem cd_X12_farthest_42 : ylk m_X12_farthest.2.2.2.2.1 42 = some (.invokevirtual 174) := by decide +kernel
theorem cd_X12_farthest_45 : ylk m_X12_farthest.2.2.2.2.1 45 = some (.if_icmp .le 6) := by decide +kernel
theorem cd_X12_farthest_48 : ylk m_X12_farthest.2.2.2.2.1 48 = some (.iload 4) := by decide +kernel
theorem cd_X12_farthest_50 : ylk m_X12_farthest.2.2.2.2.1 50 = some (.istore_n 3) := by decide +kernel
theorem cd_X12_farthest_51 : ylk m_X12_farthest.2.2.2.2.1 51 = some (.iinc 4 1) := by decide +kernel
theorem cd_X12_farthest_54 : ylk m_X12_farthest.2.2.2.2.1 54 = some (.goto (-29)) := by decide +kernel
theorem cd_X12_farthest_57 : ylk m_X12_farthest.2.2.2.2.1 57 = some (.iload_n 2) := by decide +kernel
theorem cd_X12_farthest_58 : ylk m_X12_farthest.2.2.2.2.1 58 = some (.ifCond .ne 7) := by decide +kernel
theorem cd_X12_farthest_61 : ylk m_X12_farthest.2.2.2.2.1 61 = some (.iload_n 3) := by decide +kernel
theorem cd_X12_farthest_62 : ylk m_X12_farthest.2.2.2.2.1 62 = some (.goto 9) := by decide +kernel
theorem cd_X12_farthest_65 : ylk m_X12_farthest.2.2.2.2.1 65 = some (.aload_n 0) := by decide +kernel
theorem cd_X12_farthest_66 : ylk m_X12_farthest.2.2.2.2.1 66 = some (.iload_n 1) := by decide +kernel
theorem cd_X12_farthest_67 : ylk m_X12_farthest.2.2.2.2.1 67 = some (.iload_n 3) := by decide +kernel
theorem cd_X12_farthest_68 : ylk m_X12_farthest.2.2.2.2.1 68 = some (.invokevirtual 174) := by decide +kernel
theorem cd_X12_farthest_71 : ylk m_X12_farthest.2.2.2.2.1 71 = some (.ireturn) := by decide +kernel
noncomputable abbrev yb_X12_farthest (C : yC) : ySt → Option (Option Value × yM) := yrn m_X12_farthest C
theorem en_X12_farthest (n : Nat) (A : yM) (v0 : Nat) (v1 : Int32) (v2 : Int32) : ycall (n + 1) 186 [.ref v0, .int v1, .int v2] A = (yi ((ycall n) 138 [.int v1, .int (0 : Int32), .int (5 : Int32)] A)).bind (fun z1 => if z1.1 = 0 then (some (some (.int (-1 : Int32)), z1.2)) else ((yi ((ycall n) 138 [.int v2, .int (0 : Int32), .int (1 : Int32)] z1.2)).bind (fun z2 => if z2.1 = 0 then (some (some (.int (-1 : Int32)), z2.2)) else (yb_X12_farthest (ycall n) (25, [some (.ref v0), some (.int v1), some (.int v2), some (.int (0 : Int32)), some (.int (0 : Int32))], [], z2.2))))) := (ybig_blk 15 _).trans (z_iload_n cd_X12_farthest_0 (j := 1) rfl rfl (p := 1) rfl (zgo rfl (z_iconst cd_X12_farthest_1 ki_0 (p := 2) rfl (zgo rfl (z_iconst cd_X12_farthest_2 ki_5 (p := 3) rfl (zgo rfl (z_cs1 cd_X12_farthest_3 (zs (key := 139) (by decide)) cl_X12_c139 rfl rfl rfl rfl (p := 6) rfl (fun _ => (zgo rfl (z_if_eq cd_X12_farthest_6 (p := 18) rfl (p2 := 9) rfl (zgo rfl (z_iconst cd_X12_farthest_18 ki_m1 (p := 19) rfl (zgo rfl (z_iret cd_X12_farthest_19 rfl)))) (zgo rfl (z_iload_n cd_X12_farthest_9 (j := 2) rfl rfl (p := 10) rfl (zgo rfl (z_iconst cd_X12_farthest_10 ki_0 (p := 11) rfl (zgo rfl (z_iconst cd_X12_farthest_11 ki_1 (p := 12) rfl (zgo rfl (z_cs1 cd_X12_farthest_12 (zs (key := 139) (by decide)) cl_X12_c139 rfl rfl rfl rfl (p := 15) rfl (fun _ => (zgo rfl (z_if_ne cd_X12_farthest_15 (p := 20) rfl (p2 := 18) rfl (zgo rfl (z_iconst cd_X12_farthest_18 ki_m1 (p := 19) rfl (zgo rfl (z_iret cd_X12_farthest_19 rfl)))) (zgo rfl (z_iconst cd_X12_farthest_20 ki_0 (p := 21) rfl (zgo rfl (z_istore_n cd_X12_farthest_21 (j := 3) rfl rfl (p := 22) rfl (zgo rfl (z_iconst cd_X12_farthest_22 ki_0 (p := 23) rfl (zgo rfl (z_istore cd_X12_farthest_23 rfl (p := 25) rfl (zcut (p := 25) rfl rfl))))))))))))))))))))))))))))))
theorem bk_X12_farthest_25 (C : yC) (A : yM) (v0 : Nat) (v1 : Int32) (v2 : Int32) (v3 : Int32) (v4 : Int32) : yb_X12_farthest C (25, [some (.ref v0), some (.int v1), some (.int v2), some (.int v3), some (.int v4)], [], A) = if (100 : Int32) ≤ v4 then (if v2 = 0 then (some (some (.int v3), A)) else ((yi (yvt [(11, 185)] C [.ref v0, .int v1, .int v3] A)).bind (fun z1 => some (some (.int z1.1), z1.2)))) else ((yi (yvt [(11, 185)] C [.ref v0, .int v1, .int v4] A)).bind (fun z2 => (yi (yvt [(11, 185)] C [.ref v0, .int v1, .int v3] z2.2)).bind (fun z3 => if z2.1 ≤ z3.1 then (yb_X12_farthest C (25, [some (.ref v0), some (.int v1), some (.int v2), some (.int v3), some (.int (v4 + (1 : Int32)))], [], z3.2)) else (yb_X12_farthest C (25, [some (.ref v0), some (.int v1), some (.int v2), some (.int v4), some (.int (v4 + (1 : Int32)))], [], z3.2))))) := (ybig_blk 17 _).trans (z_iload cd_X12_farthest_25 rfl (p := 27) rfl (zgo rfl (z_bipush cd_X12_farthest_27 kb_100 (p := 29) rfl (zgo rfl (z_ic_ge cd_X12_farthest_29 (p := 57) rfl (p2 := 32) rfl (zgo rfl (z_iload_n cd_X12_farthest_57 (j := 2) rfl rfl (p := 58) rfl (zgo rfl (z_if_ne cd_X12_farthest_58 (p := 65) rfl (p2 := 61) rfl (zgo rfl (z_iload_n cd_X12_farthest_61 (j := 3) rfl rfl (p := 62) rfl (zgo rfl (z_goto cd_X12_farthest_62 (p := 71) rfl (zgo rfl (z_iret cd_X12_farthest_71 rfl)))))) (zgo rfl (z_aload_n cd_X12_farthest_65 (j := 0) rfl rfl (p := 66) rfl (zgo rfl (z_iload_n cd_X12_farthest_66 (j := 1) rfl rfl (p := 67) rfl (zgo rfl (z_iload_n cd_X12_farthest_67 (j := 3) rfl rfl (p := 68) rfl (zgo rfl (z_cv1 cd_X12_farthest_68 (zv (key := 522) (by decide)) cl_X12_c522 rfl rfl rfl rfl (p := 71) rfl (fun _ => (zgo rfl (z_iret cd_X12_farthest_71 rfl))))))))))))))) (zgo rfl (z_aload_n cd_X12_farthest_32 (j := 0) rfl rfl (p := 33) rfl (zgo rfl (z_iload_n cd_X12_farthest_33 (j := 1) rfl rfl (p := 34) rfl (zgo rfl (z_iload cd_X12_farthest_34 rfl (p := 36) rfl (zgo rfl (z_cv1 cd_X12_farthest_36 (zv (key := 522) (by decide)) cl_X12_c522 rfl rfl rfl rfl (p := 39) rfl (fun _ => (zgo rfl (z_aload_n cd_X12_farthest_39 (j := 0) rfl rfl (p := 40) rfl (zgo rfl (z_iload_n cd_X12_farthest_40 (j := 1) rfl rfl (p := 41) rfl (zgo rfl (z_iload_n cd_X12_farthest_41 (j := 3) rfl rfl (p := 42) rfl (zgo rfl (z_cv1 cd_X12_farthest_42 (zv (key := 522) (by decide)) cl_X12_c522 rfl rfl rfl rfl (p := 45) rfl (fun _ => (zgo rfl (z_ic_le cd_X12_farthest_45 (p := 51) rfl (p2 := 48) rfl (zgo rfl (z_iinc cd_X12_farthest_51 ki_1 rfl rfl (p := 54) rfl (zgo rfl (z_goto cd_X12_farthest_54 (p := 25) rfl (zcut (p := 25) rfl rfl))))) (zgo rfl (z_iload cd_X12_farthest_48 rfl (p := 50) rfl (zgo rfl (z_istore_n cd_X12_farthest_50 (j := 3) rfl rfl (p := 51) rfl (zgo rfl (z_iinc cd_X12_farthest_51 ki_1 rfl rfl (p := 54) rfl (zgo rfl (z_goto cd_X12_farthest_54 (p := 25) rfl (zcut (p := 25) rfl rfl))))))))))))))))))))))))))))))))))
theorem cd_X12_cite_0 : ylk m_X12_cite.2.2.2.2.1 0 = some (.aload_n 0) := by decide +kernel
theorem cd_X12_cite_1 : ylk m_X12_cite.2.2.2.2.1 1 = some (.iload_n 1) := by decide +kernel
theorem cd_X12_cite_2 : ylk m_X12_cite.2.2.2.2.1 2 = some (.invokevirtual 114) := by decide +kernel
theorem cd_X12_cite_5 : ylk m_X12_cite.2.2.2.2.1 5 = some (.ifCond .eq 16) := by decide +kernel
theorem cd_X12_cite_8 : ylk m_X12_cite.2.2.2.2.1 8 = some (.aload_n 0) := by decide +kernel
theorem cd_X12_cite_9 : ylk m_X12_cite.2.2.2.2.1 9 = some (.iload_n 2) := by decide +kernel
theorem cd_X12_cite_10 : ylk m_X12_cite.2.2.2.2.1 10 = some (.invokevirtual 114) := by decide +kernel
theorem cd_X12_cite_13 : ylk m_X12_cite.2.2.2.2.1 13 = some (.ifCond .eq 8) := by decide +kernel
theorem cd_X12_cite_16 : ylk m_X12_cite.2.2.2.2.1 16 = some (.iload_n 1) := by decide +kernel
theorem cd_X12_cite_17 : ylk m_X12_cite.2.2.2.2.1 17 = some (.iload_n 2) := by decide +kernel
theorem cd_X12_cite_18 : ylk m_X12_cite.2.2.2.2.1 18 = some (.if_icmp .ne 5) := by decide +kernel
theorem cd_X12_cite_21 : ylk m_X12_cite.2.2.2.2.1 21 = some (.iconst (-1)) := by decide +kernel
theorem cd_X12_cite_22 : ylk m_X12_cite.2.2.2.2.1 22 = some (.ireturn) := by decide +kernel
theorem cd_X12_cite_23 : ylk m_X12_cite.2.2.2.2.1 23 = some (.aload_n 0) := by decide +kernel
theorem cd_X12_cite_24 : ylk m_X12_cite.2.2.2.2.1 24 = some (.getfield 9) := by decide +kernel
theorem cd_X12_cite_27 : ylk m_X12_cite.2.2.2.2.1 27 = some (.iload_n 1) := by decide +kernel
theorem cd_X12_cite_28 : ylk m_X12_cite.2.2.2.2.1 28 = some (.invokestatic 80) := by decide +kernel
theorem cd_X12_cite_31 : ylk m_X12_cite.2.2.2.2.1 31 = some (.ifCond .ne 6) := by decide +kernel
theorem cd_X12_cite_34 : ylk m_X12_cite.2.2.2.2.1 34 = some (.bipush (-3)) := by decide +kernel
theorem cd_X12_cite_36 : ylk m_X12_cite.2.2.2.2.1 36 = some (.ireturn) := by decide +kernel
theorem cd_X12_cite_37 : ylk m_X12_cite.2.2.2.2.1 37 = some (.bipush (-4)) := by decide +kernel
theorem cd_X12_cite_39 : ylk m_X12_cite.2.2.2.2.1 39 = some (.istore_n 3) := by decide +kernel
theorem cd_X12_cite_40 : ylk m_X12_cite.2.2.2.2.1 40 = some (.iconst (-1)) := by decide +kernel
theorem cd_X12_cite_41 : ylk m_X12_cite.2.2.2.2.1 41 = some (.istore 4) := by decide +kernel
theorem cd_X12_cite_43 : ylk m_X12_cite.2.2.2.2.1 43 = some (.iconst 0) := by decide +kernel
theorem cd_X12_cite_44 : ylk m_X12_cite.2.2.2.2.1 44 = some (.istore 5) := by decide +kernel
theorem cd_X12_cite_46 : ylk m_X12_cite.2.2.2.2.1 46 = some (.iload 5) := by decide +kernel
theorem cd_X12_cite_48 : ylk m_X12_cite.2.2.2.2.1 48 = some (.aload_n 0) := by decide +kernel
theorem cd_X12_cite_49 : ylk m_X12_cite.2.2.2.2.1 49 = some (.getfield 9) := by decide +kernel
theorem cd_X12_cite_52 : ylk m_X12_cite.2.2.2.2.1 52 = some (.iconst 1) := by decide +kernel
theorem cd_X12_cite_53 : ylk m_X12_cite.2.2.2.2.1 53 = some (.iaload) := by decide +kernel
theorem cd_X12_cite_54 : ylk m_X12_cite.2.2.2.2.1 54 = some (.if_icmp .ge 70) := by decide +kernel
theorem cd_X12_cite_57 : ylk m_X12_cite.2.2.2.2.1 57 = some (.aload_n 0) := by decide +kernel
theorem cd_X12_cite_58 : ylk m_X12_cite.2.2.2.2.1 58 = some (.getfield 9) := by decide +kernel
theorem cd_X12_cite_61 : ylk m_X12_cite.2.2.2.2.1 61 = some (.iconst 1) := by decide +kernel
theorem cd_X12_cite_62 : ylk m_X12_cite.2.2.2.2.1 62 = some (.iaload) := by decide +kernel
theorem cd_X12_cite_63 : ylk m_X12_cite.2.2.2.2.1 63 = some (.bipush 12) := by decide +kernel
theorem cd_X12_cite_65 : ylk m_X12_cite.2.2.2.2.1 65 = some (.if_icmp .ge 59) := by decide +kernel
theorem cd_X12_cite_68 : ylk m_X12_cite.2.2.2.2.1 68 = some (.aload_n 0) := by decide +kernel
theorem cd_X12_cite_69 : ylk m_X12_cite.2.2.2.2.1 69 = some (.getfield 9) := by decide +kernel
theorem cd_X12_cite_72 : ylk m_X12_cite.2.2.2.2.1 72 = some (.aload_n 0) := by decide +kernel
theorem cd_X12_cite_73 : ylk m_X12_cite.2.2.2.2.1 73 = some (.getfield 13) := by decide +kernel
theorem cd_X12_cite_76 : ylk m_X12_cite.2.2.2.2.1 76 = some (.invokestatic 143) := by decide +kernel
theorem cd_X12_cite_79 : ylk m_X12_cite.2.2.2.2.1 79 = some (.aload_n 0) := by decide +kernel
theorem cd_X12_cite_80 : ylk m_X12_cite.2.2.2.2.1 80 = some (.getfield 13) := by decide +kernel
theorem cd_X12_cite_83 : ylk m_X12_cite.2.2.2.2.1 83 = some (.iload_n 1) := by decide +kernel
theorem cd_X12_cite_84 : ylk m_X12_cite.2.2.2.2.1 84 = some (.iconst 0) := by decide +kernel
theorem cd_X12_cite_85 : ylk m_X12_cite.2.2.2.2.1 85 = some (.iconst 0) := by decide +kernel
theorem cd_X12_cite_86 : ylk m_X12_cite.2.2.2.2.1 86 = some (.iload 5) := by decide +kernel
theorem cd_X12_cite_88 : ylk m_X12_cite.2.2.2.2.1 88 = some (.invokestatic 121) := by decide +kernel
theorem cd_X12_cite_91 : ylk m_X12_cite.2.2.2.2.1 91 = some (.aload_n 0) := by decide +kernel
theorem cd_X12_cite_92 : ylk m_X12_cite.2.2.2.2.1 92 = some (.getfield 13) := by decide +kernel
theorem cd_X12_cite_95 : ylk m_X12_cite.2.2.2.2.1 95 = some (.iload_n 2) := by decide +kernel
theorem cd_X12_cite_96 : ylk m_X12_cite.2.2.2.2.1 96 = some (.invokestatic 77) := by decide +kernel
theorem cd_X12_cite_99 : ylk m_X12_cite.2.2.2.2.1 99 = some (.istore 6) := by decide +kernel
theorem cd_X12_cite_101 : ylk m_X12_cite.2.2.2.2.1 101 = some (.iload 6) := by decide +kernel
theorem cd_X12_cite_103 : ylk m_X12_cite.2.2.2.2.1 103 = some (.iload 4) := by decide +kernel
theorem cd_X12_cite_105 : ylk m_X12_cite.2.2.2.2.1 105 = some (.if_icmp .gt 6) := by decide +kernel
theorem cd_X12_cite_108 : ylk m_X12_cite.2.2.2.2.1 108 = some (.goto 10) := by decide +kernel
theorem cd_X12_cite_111 : ylk m_X12_cite.2.2.2.2.1 111 = some (.iload 5) := by decide +kernel
theorem cd_X12_cite_113 : ylk m_X12_cite.2.2.2.2.1 113 = some (.istore_n 3) := by decide +kernel
theorem cd_X12_cite_114 : ylk m_X12_cite.2.2.2.2.1 114 = some (.iload 6) := by decide +kernel
theorem cd_X12_cite_116 : ylk m_X12_cite.2.2.2.2.1 116 = some (.istore 4) := by decide +kernel
theorem cd_X12_cite_118 : ylk m_X12_cite.2.2.2.2.1 118 = some (.iinc 5 1) := by decide +kernel
theorem cd_X12_cite_121 : ylk m_X12_cite.2.2.2.2.1 121 = some (.goto (-75)) := by decide +kernel
theorem cd_X12_cite_124 : ylk m_X12_cite.2.2.2.2.1 124 = some (.iload_n 3) := by decide +kernel
theorem cd_X12_cite_125 : ylk m_X12_cite.2.2.2.2.1 125 = some (.ireturn) := by decide +kernel
noncomputable abbrev yb_X12_cite (C : yC) : ySt → Option (Option Value × yM) := yrn m_X12_cite C
theorem en_X12_cite (n : Nat) (A : yM) (v0 : Nat) (v1 : Int32) (v2 : Int32) : ycall (n + 1) 187 [.ref v0, .int v1, .int v2] A = (yi (yvt [(11, 144)] (ycall n) [.ref v0, .int v1] A)).bind (fun z1 => if z1.1 = 0 then (some (some (.int (-1 : Int32)), z1.2)) else ((yi (yvt [(11, 144)] (ycall n) [.ref v0, .int v2] z1.2)).bind (fun z2 => if z2.1 = 0 then (some (some (.int (-1 : Int32)), z2.2)) else (if v1 = v2 then (some (some (.int (-1 : Int32)), z2.2)) else (ygR z2.2 v0 11 0 (fun a3 => (yi ((ycall n) 146 [.ref a3, .int v1] z2.2)).bind (fun z4 => if z4.1 = 0 then (some (some (.int (-3 : Int32)), z4.2)) else (yb_X12_cite (ycall n) (46, [some (.ref v0), some (.int v1), some (.int v2), some (.int (-4 : Int32)), some (.int (-1 : Int32)), some (.int (0 : Int32)), none], [], z4.2))))))))) := (ybig_blk 23 _).trans (z_aload_n cd_X12_cite_0 (j := 0) rfl rfl (p := 1) rfl (zgo rfl (z_iload_n cd_X12_cite_1 (j := 1) rfl rfl (p := 2) rfl (zgo rfl (z_cv1 cd_X12_cite_2 (zv (key := 342) (by decide)) cl_X12_c342 rfl rfl rfl rfl (p := 5) rfl (fun _ => (zgo rfl (z_if_eq cd_X12_cite_5 (p := 21) rfl (p2 := 8) rfl (zgo rfl (z_iconst cd_X12_cite_21 ki_m1 (p := 22) rfl (zgo rfl (z_iret cd_X12_cite_22 rfl)))) (zgo rfl (z_aload_n cd_X12_cite_8 (j := 0) rfl rfl (p := 9) rfl (zgo rfl (z_iload_n cd_X12_cite_9 (j := 2) rfl rfl (p := 10) rfl (zgo rfl (z_cv1 cd_X12_cite_10 (zv (key := 342) (by decide)) cl_X12_c342 rfl rfl rfl rfl (p := 13) rfl (fun _ => (zgo rfl (z_if_eq cd_X12_cite_13 (p := 21) rfl (p2 := 16) rfl (zgo rfl (z_iconst cd_X12_cite_21 ki_m1 (p := 22) rfl (zgo rfl (z_iret cd_X12_cite_22 rfl)))) (zgo rfl (z_iload_n cd_X12_cite_16 (j := 1) rfl rfl (p := 17) rfl (zgo rfl (z_iload_n cd_X12_cite_17 (j := 2) rfl rfl (p := 18) rfl (zgo rfl (z_ic_ne cd_X12_cite_18 (p := 23) rfl (p2 := 21) rfl (zgo rfl (z_iconst cd_X12_cite_21 ki_m1 (p := 22) rfl (zgo rfl (z_iret cd_X12_cite_22 rfl)))) (zgo rfl (z_aload_n cd_X12_cite_23 (j := 0) rfl rfl (p := 24) rfl (zgo rfl (z_getR cd_X12_cite_24 fd_X12_9 (p := 27) rfl (fun _ => (zgo rfl (z_iload_n cd_X12_cite_27 (j := 1) rfl rfl (p := 28) rfl (zgo rfl (z_cs1 cd_X12_cite_28 (zs (key := 241) (by decide)) cl_X12_c241 rfl rfl rfl rfl (p := 31) rfl (fun _ => (zgo rfl (z_if_ne cd_X12_cite_31 (p := 37) rfl (p2 := 34) rfl (zgo rfl (z_bipush cd_X12_cite_34 kb_m3 (p := 36) rfl (zgo rfl (z_iret cd_X12_cite_36 rfl)))) (zgo rfl (z_bipush cd_X12_cite_37 kb_m4 (p := 39) rfl (zgo rfl (z_istore_n cd_X12_cite_39 (j := 3) rfl rfl (p := 40) rfl (zgo rfl (z_iconst cd_X12_cite_40 ki_m1 (p := 41) rfl (zgo rfl (z_istore cd_X12_cite_41 rfl (p := 43) rfl (zgo rfl (z_iconst cd_X12_cite_43 ki_0 (p := 44) rfl (zgo rfl (z_istore cd_X12_cite_44 rfl (p := 46) rfl (zcut (p := 46) rfl rfl))))))))))))))))))))))))))))))))))))))))))))))))
theorem bk_X12_cite_46 (C : yC) (A : yM) (v0 : Nat) (v1 : Int32) (v2 : Int32) (v3 : Int32) (v4 : Int32) (v5 : Int32) : yb_X12_cite C (46, [some (.ref v0), some (.int v1), some (.int v2), some (.int v3), some (.int v4), some (.int v5), none], [], A) = ygR A v0 11 0 (fun a1 => yrd A a1 (1 : Int32) (fun x2 => if x2 ≤ v5 then (some (some (.int v3), A)) else (ygR A v0 11 0 (fun a3 => yrd A a3 (1 : Int32) (fun x4 => if (12 : Int32) ≤ x4 then (some (some (.int v3), A)) else (ygR A v0 11 0 (fun a5 => ygR A v0 11 1 (fun a6 => (yv (C 141 [.ref a5, .ref a6] A)).bind (fun A7 => ygR A7 v0 11 1 (fun a8 => (yv (C 160 [.ref a8, .int v1, .int (0 : Int32), .int (0 : Int32), .int v5] A7)).bind (fun A9 => ygR A9 v0 11 1 (fun a10 => (yi (C 154 [.ref a10, .int v2] A9)).bind (fun z11 => if v4 < z11.1 then (yb_X12_cite C (46, [some (.ref v0), some (.int v1), some (.int v2), some (.int v5), some (.int z11.1), some (.int (v5 + (1 : Int32))), none], [], z11.2)) else (yb_X12_cite C (46, [some (.ref v0), some (.int v1), some (.int v2), some (.int v3), some (.int v4), some (.int (v5 + (1 : Int32))), none], [], z11.2))))))))))))))) := (ybig_blk 39 _).trans (z_iload cd_X12_cite_46 rfl (p := 48) rfl (zgo rfl (z_aload_n cd_X12_cite_48 (j := 0) rfl rfl (p := 49) rfl (zgo rfl (z_getR cd_X12_cite_49 fd_X12_9 (p := 52) rfl (fun _ => (zgo rfl (z_iconst cd_X12_cite_52 ki_1 (p := 53) rfl (zgo rfl (z_iaload cd_X12_cite_53 (p := 54) rfl (fun _ => (zgo rfl (z_ic_ge cd_X12_cite_54 (p := 124) rfl (p2 := 57) rfl (zgo rfl (z_iload_n cd_X12_cite_124 (j := 3) rfl rfl (p := 125) rfl (zgo rfl (z_iret cd_X12_cite_125 rfl)))) (zgo rfl (z_aload_n cd_X12_cite_57 (j := 0) rfl rfl (p := 58) rfl (zgo rfl (z_getR cd_X12_cite_58 fd_X12_9 (p := 61) rfl (fun _ => (zgo rfl (z_iconst cd_X12_cite_61 ki_1 (p := 62) rfl (zgo rfl (z_iaload cd_X12_cite_62 (p := 63) rfl (fun _ => (zgo rfl (z_bipush cd_X12_cite_63 kb_12 (p := 65) rfl (zgo rfl (z_ic_ge cd_X12_cite_65 (p := 124) rfl (p2 := 68) rfl (zgo rfl (z_iload_n cd_X12_cite_124 (j := 3) rfl rfl (p := 125) rfl (zgo rfl (z_iret cd_X12_cite_125 rfl)))) (zgo rfl (z_aload_n cd_X12_cite_68 (j := 0) rfl rfl (p := 69) rfl (zgo rfl (z_getR cd_X12_cite_69 fd_X12_9 (p := 72) rfl (fun _ => (zgo rfl (z_aload_n cd_X12_cite_72 (j := 0) rfl rfl (p := 73) rfl (zgo rfl (z_getR cd_X12_cite_73 fd_X12_13 (p := 76) rfl (fun _ => (zgo rfl (z_cs0 cd_X12_cite_76 (zs (key := 430) (by decide)) cl_X12_c430 rfl rfl rfl rfl (p := 79) rfl (fun _ => (zgo rfl (z_aload_n cd_X12_cite_79 (j := 0) rfl rfl (p := 80) rfl (zgo rfl (z_getR cd_X12_cite_80 fd_X12_13 (p := 83) rfl (fun _ => (zgo rfl (z_iload_n cd_X12_cite_83 (j := 1) rfl rfl (p := 84) rfl (zgo rfl (z_iconst cd_X12_cite_84 ki_0 (p := 85) rfl (zgo rfl (z_iconst cd_X12_cite_85 ki_0 (p := 86) rfl (zgo rfl (z_iload cd_X12_cite_86 rfl (p := 88) rfl (zgo rfl (z_cs0 cd_X12_cite_88 (zs (key := 364) (by decide)) cl_X12_c364 rfl rfl rfl rfl (p := 91) rfl (fun _ => (zgo rfl (z_aload_n cd_X12_cite_91 (j := 0) rfl rfl (p := 92) rfl (zgo rfl (z_getR cd_X12_cite_92 fd_X12_13 (p := 95) rfl (fun _ => (zgo rfl (z_iload_n cd_X12_cite_95 (j := 2) rfl rfl (p := 96) rfl (zgo rfl (z_cs1 cd_X12_cite_96 (zs (key := 232) (by decide)) cl_X12_c232 rfl rfl rfl rfl (p := 99) rfl (fun _ => (zgo rfl (z_istore cd_X12_cite_99 rfl (p := 101) rfl (zgo rfl (z_iload cd_X12_cite_101 rfl (p := 103) rfl (zgo rfl (z_iload cd_X12_cite_103 rfl (p := 105) rfl (zgo rfl (z_ic_gt cd_X12_cite_105 (p := 111) rfl (p2 := 108) rfl (zgo rfl (z_iload cd_X12_cite_111 rfl (p := 113) rfl (zgo rfl (z_istore_n cd_X12_cite_113 (j := 3) rfl rfl (p := 114) rfl (zgo rfl (z_iload cd_X12_cite_114 rfl (p := 116) rfl (zgo rfl (z_istore cd_X12_cite_116 rfl (p := 118) rfl (zgo rfl (z_iinc cd_X12_cite_118 ki_1 rfl rfl (p := 121) rfl (zgo rfl (z_goto cd_X12_cite_121 (p := 46) rfl (zcut (p := 46) rfl rfl))))))))))))) (zgo rfl (z_goto cd_X12_cite_108 (p := 118) rfl (zgo rfl (z_iinc cd_X12_cite_118 ki_1 rfl rfl (p := 121) rfl (zgo rfl (z_goto cd_X12_cite_121 (p := 46) rfl (zcut (p := 46) rfl rfl)))))))))))))))))))))))))))))))))))))))))))))))))))))))))))))))))))))))))))))))))
theorem cd_X12_correct_0 : ylk m_X12_correct.2.2.2.2.1 0 = some (.aload_n 0) := by decide +kernel
theorem cd_X12_correct_1 : ylk m_X12_correct.2.2.2.2.1 1 = some (.iload_n 1) := by decide +kernel
theorem cd_X12_correct_2 : ylk m_X12_correct.2.2.2.2.1 2 = some (.invokevirtual 114) := by decide +kernel
theorem cd_X12_correct_5 : ylk m_X12_correct.2.2.2.2.1 5 = some (.ifCond .eq 16) := by decide +kernel
theorem cd_X12_correct_8 : ylk m_X12_correct.2.2.2.2.1 8 = some (.aload_n 0) := by decide +kernel
theorem cd_X12_correct_9 : ylk m_X12_correct.2.2.2.2.1 9 = some (.iload_n 2) := by decide +kernel
theorem cd_X12_correct_10 : ylk m_X12_correct.2.2.2.2.1 10 = some (.invokevirtual 114) := by decide +kernel
theorem cd_X12_correct_13 : ylk m_X12_correct.2.2.2.2.1 13 = some (.ifCond .eq 8) := by decide +kernel
theorem cd_X12_correct_16 : ylk m_X12_correct.2.2.2.2.1 16 = some (.iload_n 1) := by decide +kernel
theorem cd_X12_correct_17 : ylk m_X12_correct.2.2.2.2.1 17 = some (.iload_n 2) := by decide +kernel
theorem cd_X12_correct_18 : ylk m_X12_correct.2.2.2.2.1 18 = some (.if_icmp .ne 5) := by decide +kernel
theorem cd_X12_correct_21 : ylk m_X12_correct.2.2.2.2.1 21 = some (.iconst (-1)) := by decide +kernel
theorem cd_X12_correct_22 : ylk m_X12_correct.2.2.2.2.1 22 = some (.ireturn) := by decide +kernel
theorem cd_X12_correct_23 : ylk m_X12_correct.2.2.2.2.1 23 = some (.bipush (-4)) := by decide +kernel
theorem cd_X12_correct_25 : ylk m_X12_correct.2.2.2.2.1 25 = some (.istore_n 3) := by decide +kernel
theorem cd_X12_correct_26 : ylk m_X12_correct.2.2.2.2.1 26 = some (.aload_n 0) := by decide +kernel
theorem cd_X12_correct_27 : ylk m_X12_correct.2.2.2.2.1 27 = some (.getfield 9) := by decide +kernel
theorem cd_X12_correct_30 : ylk m_X12_correct.2.2.2.2.1 30 = some (.iload_n 2) := by decide +kernel
theorem cd_X12_correct_31 : ylk m_X12_correct.2.2.2.2.1 31 = some (.invokestatic 150) := by decide +kernel
theorem cd_X12_correct_34 : ylk m_X12_correct.2.2.2.2.1 34 = some (.istore 4) := by decide +kernel
theorem cd_X12_correct_36 : ylk m_X12_correct.2.2.2.2.1 36 = some (.iconst 0) := by decide +kernel
theorem cd_X12_correct_37 : ylk m_X12_correct.2.2.2.2.1 37 = some (.istore 5) := by decide +kernel
theorem cd_X12_correct_39 : ylk m_X12_correct.2.2.2.2.1 39 = some (.iload 5) := by decide +kernel
theorem cd_X12_correct_41 : ylk m_X12_correct.2.2.2.2.1 41 = some (.aload_n 0) := by decide +kernel
theorem cd_X12_correct_42 : ylk m_X12_correct.2.2.2.2.1 42 = some (.getfield 9) := by decide +kernel
theorem cd_X12_correct_45 : ylk m_X12_correct.2.2.2.2.1 45 = some (.iconst 1) := by decide +kernel
theorem cd_X12_correct_46 : ylk m_X12_correct.2.2.2.2.1 46 = some (.iaload) := by decide +kernel
theorem cd_X12_correct_47 : ylk m_X12_correct.2.2.2.2.1 47 = some (.if_icmp .ge 70) := by decide +kernel
theorem cd_X12_correct_50 : ylk m_X12_correct.2.2.2.2.1 50 = some (.aload_n 0) := by decide +kernel
theorem cd_X12_correct_51 : ylk m_X12_correct.2.2.2.2.1 51 = some (.iload_n 1) := by decide +kernel
theorem cd_X12_correct_52 : ylk m_X12_correct.2.2.2.2.1 52 = some (.iload 5) := by decide +kernel
theorem cd_X12_correct_54 : ylk m_X12_correct.2.2.2.2.1 54 = some (.invokevirtual 125) := by decide +kernel
theorem cd_X12_correct_57 : ylk m_X12_correct.2.2.2.2.1 57 = some (.ifCond .ne 6) := by decide +kernel
theorem cd_X12_correct_60 : ylk m_X12_correct.2.2.2.2.1 60 = some (.goto 51) := by decide +kernel
theorem cd_X12_correct_63 : ylk m_X12_correct.2.2.2.2.1 63 = some (.aload_n 0) := by decide +kernel
theorem cd_X12_correct_64 : ylk m_X12_correct.2.2.2.2.1 64 = some (.getfield 9) := by decide +kernel
theorem cd_X12_correct_67 : ylk m_X12_correct.2.2.2.2.1 67 = some (.aload_n 0) := by decide +kernel
theorem cd_X12_correct_68 : ylk m_X12_correct.2.2.2.2.1 68 = some (.getfield 13) := by decide +kernel
theorem cd_X12_correct_71 : ylk m_X12_correct.2.2.2.2.1 71 = some (.invokestatic 143) := by decide +kernel
theorem cd_X12_correct_74 : ylk m_X12_correct.2.2.2.2.1 74 = some (.aload_n 0) := by decide +kernel
theorem cd_X12_correct_75 : ylk m_X12_correct.2.2.2.2.1 75 = some (.getfield 13) := by decide +kernel
theorem cd_X12_correct_78 : ylk m_X12_correct.2.2.2.2.1 78 = some (.iload_n 1) := by decide +kernel
theorem cd_X12_correct_79 : ylk m_X12_correct.2.2.2.2.1 79 = some (.iload 5) := by decide +kernel
theorem cd_X12_correct_81 : ylk m_X12_correct.2.2.2.2.1 81 = some (.invokestatic 128) := by decide +kernel
theorem cd_X12_correct_84 : ylk m_X12_correct.2.2.2.2.1 84 = some (.aload_n 0) := by decide +kernel
theorem cd_X12_correct_85 : ylk m_X12_correct.2.2.2.2.1 85 = some (.getfield 13) := by decide +kernel
theorem cd_X12_correct_88 : ylk m_X12_correct.2.2.2.2.1 88 = some (.iload_n 2) := by decide +kernel
theorem cd_X12_correct_89 : ylk m_X12_correct.2.2.2.2.1 89 = some (.invokestatic 150) := by decide +kernel
theorem cd_X12_correct_92 : ylk m_X12_correct.2.2.2.2.1 92 = some (.istore 6) := by decide +kernel
theorem cd_X12_correct_94 : ylk m_X12_correct.2.2.2.2.1 94 = some (.iload 6) := by decide +kernel
theorem cd_X12_correct_96 : ylk m_X12_correct.2.2.2.2.1 96 = some (.iload 4) := by decide +kernel
theorem cd_X12_correct_98 : ylk m_X12_correct.2.2.2.2.1 98 = some (.if_icmp .lt 6) := by decide +kernel
theorem cd_X12_correct_101 : ylk m_X12_correct.2.2.2.2.1 101 = some (.goto 10) := by decide +kernel
theorem cd_X12_correct_104 : ylk m_X12_correct.2.2.2.2.1 104 = some (.iload 5) := by decide +kernel
theorem cd_X12_correct_106 : ylk m_X12_correct.2.2.2.2.1 106 = some (.istore_n 3) := by decide +kernel
theorem cd_X12_correct_107 : ylk m_X12_correct.2.2.2.2.1 107 = some (.iload 6) := by decide +kernel
theorem cd_X12_correct_109 : ylk m_X12_correct.2.2.2.2.1 109 = some (.istore 4) := by decide +kernel
theorem cd_X12_correct_111 : ylk m_X12_correct.2.2.2.2.1 111 = some (.iinc 5 1) := by decide +kernel
theorem cd_X12_correct_114 : ylk m_X12_correct.2.2.2.2.1 114 = some (.goto (-75)) := by decide +kernel
theorem cd_X12_correct_117 : ylk m_X12_correct.2.2.2.2.1 117 = some (.iload_n 3) := by decide +kernel
theorem cd_X12_correct_118 : ylk m_X12_correct.2.2.2.2.1 118 = some (.ireturn) := by decide +kernel
noncomputable abbrev yb_X12_correct (C : yC) : ySt → Option (Option Value × yM) := yrn m_X12_correct C
theorem en_X12_correct (n : Nat) (A : yM) (v0 : Nat) (v1 : Int32) (v2 : Int32) : ycall (n + 1) 188 [.ref v0, .int v1, .int v2] A = (yi (yvt [(11, 144)] (ycall n) [.ref v0, .int v1] A)).bind (fun z1 => if z1.1 = 0 then (some (some (.int (-1 : Int32)), z1.2)) else ((yi (yvt [(11, 144)] (ycall n) [.ref v0, .int v2] z1.2)).bind (fun z2 => if z2.1 = 0 then (some (some (.int (-1 : Int32)), z2.2)) else (if v1 = v2 then (some (some (.int (-1 : Int32)), z2.2)) else (ygR z2.2 v0 11 0 (fun a3 => (yi ((ycall n) 156 [.ref a3, .int v2] z2.2)).bind (fun z4 => yb_X12_correct (ycall n) (39, [some (.ref v0), some (.int v1), some (.int v2), some (.int (-4 : Int32)), some (.int z4.1), some (.int (0 : Int32)), none], [], z4.2)))))))) := (ybig_blk 21 _).trans (z_aload_n cd_X12_correct_0 (j := 0) rfl rfl (p := 1) rfl (zgo rfl (z_iload_n cd_X12_correct_1 (j := 1) rfl rfl (p := 2) rfl (zgo rfl (z_cv1 cd_X12_correct_2 (zv (key := 342) (by decide)) cl_X12_c342 rfl rfl rfl rfl (p := 5) rfl (fun _ => (zgo rfl (z_if_eq cd_X12_correct_5 (p := 21) rfl (p2 := 8) rfl (zgo rfl (z_iconst cd_X12_correct_21 ki_m1 (p := 22) rfl (zgo rfl (z_iret cd_X12_correct_22 rfl)))) (zgo rfl (z_aload_n cd_X12_correct_8 (j := 0) rfl rfl (p := 9) rfl (zgo rfl (z_iload_n cd_X12_correct_9 (j := 2) rfl rfl (p := 10) rfl (zgo rfl (z_cv1 cd_X12_correct_10 (zv (key := 342) (by decide)) cl_X12_c342 rfl rfl rfl rfl (p := 13) rfl (fun _ => (zgo rfl (z_if_eq cd_X12_correct_13 (p := 21) rfl (p2 := 16) rfl (zgo rfl (z_iconst cd_X12_correct_21 ki_m1 (p := 22) rfl (zgo rfl (z_iret cd_X12_correct_22 rfl)))) (zgo rfl (z_iload_n cd_X12_correct_16 (j := 1) rfl rfl (p := 17) rfl (zgo rfl (z_iload_n cd_X12_correct_17 (j := 2) rfl rfl (p := 18) rfl (zgo rfl (z_ic_ne cd_X12_correct_18 (p := 23) rfl (p2 := 21) rfl (zgo rfl (z_iconst cd_X12_correct_21 ki_m1 (p := 22) rfl (zgo rfl (z_iret cd_X12_correct_22 rfl)))) (zgo rfl (z_bipush cd_X12_correct_23 kb_m4 (p := 25) rfl (zgo rfl (z_istore_n cd_X12_correct_25 (j := 3) rfl rfl (p := 26) rfl (zgo rfl (z_aload_n cd_X12_correct_26 (j := 0) rfl rfl (p := 27) rfl (zgo rfl (z_getR cd_X12_correct_27 fd_X12_9 (p := 30) rfl (fun _ => (zgo rfl (z_iload_n cd_X12_correct_30 (j := 2) rfl rfl (p := 31) rfl (zgo rfl (z_cs1 cd_X12_correct_31 (zs (key := 451) (by decide)) cl_X12_c451 rfl rfl rfl rfl (p := 34) rfl (fun _ => (zgo rfl (z_istore cd_X12_correct_34 rfl (p := 36) rfl (zgo rfl (z_iconst cd_X12_correct_36 ki_0 (p := 37) rfl (zgo rfl (z_istore cd_X12_correct_37 rfl (p := 39) rfl (zcut (p := 39) rfl rfl))))))))))))))))))))))))))))))))))))))))))))
theorem bk_X12_correct_39 (C : yC) (A : yM) (v0 : Nat) (v1 : Int32) (v2 : Int32) (v3 : Int32) (v4 : Int32) (v5 : Int32) : yb_X12_correct C (39, [some (.ref v0), some (.int v1), some (.int v2), some (.int v3), some (.int v4), some (.int v5), none], [], A) = ygR A v0 11 0 (fun a1 => yrd A a1 (1 : Int32) (fun x2 => if x2 ≤ v5 then (some (some (.int v3), A)) else ((yi (yvt [(11, 162)] C [.ref v0, .int v1, .int v5] A)).bind (fun z3 => if z3.1 = 0 then (yb_X12_correct C (39, [some (.ref v0), some (.int v1), some (.int v2), some (.int v3), some (.int v4), some (.int (v5 + (1 : Int32))), none], [], z3.2)) else (ygR z3.2 v0 11 0 (fun a4 => ygR z3.2 v0 11 1 (fun a5 => (yv (C 141 [.ref a4, .ref a5] z3.2)).bind (fun A6 => ygR A6 v0 11 1 (fun a7 => (yv (C 161 [.ref a7, .int v1, .int v5] A6)).bind (fun A8 => ygR A8 v0 11 1 (fun a9 => (yi (C 156 [.ref a9, .int v2] A8)).bind (fun z10 => if z10.1 < v4 then (yb_X12_correct C (39, [some (.ref v0), some (.int v1), some (.int v2), some (.int v5), some (.int z10.1), some (.int (v5 + (1 : Int32))), none], [], z10.2)) else (yb_X12_correct C (39, [some (.ref v0), some (.int v1), some (.int v2), some (.int v3), some (.int v4), some (.int (v5 + (1 : Int32))), none], [], z10.2)))))))))))))) := (ybig_blk 36 _).trans (z_iload cd_X12_correct_39 rfl (p := 41) rfl (zgo rfl (z_aload_n cd_X12_correct_41 (j := 0) rfl rfl (p := 42) rfl (zgo rfl (z_getR cd_X12_correct_42 fd_X12_9 (p := 45) rfl (fun _ => (zgo rfl (z_iconst cd_X12_correct_45 ki_1 (p := 46) rfl (zgo rfl (z_iaload cd_X12_correct_46 (p := 47) rfl (fun _ => (zgo rfl (z_ic_ge cd_X12_correct_47 (p := 117) rfl (p2 := 50) rfl (zgo rfl (z_iload_n cd_X12_correct_117 (j := 3) rfl rfl (p := 118) rfl (zgo rfl (z_iret cd_X12_correct_118 rfl)))) (zgo rfl (z_aload_n cd_X12_correct_50 (j := 0) rfl rfl (p := 51) rfl (zgo rfl (z_iload_n cd_X12_correct_51 (j := 1) rfl rfl (p := 52) rfl (zgo rfl (z_iload cd_X12_correct_52 rfl (p := 54) rfl (zgo rfl (z_cv1 cd_X12_correct_54 (zv (key := 375) (by decide)) cl_X12_c375 rfl rfl rfl rfl (p := 57) rfl (fun _ => (zgo rfl (z_if_ne cd_X12_correct_57 (p := 63) rfl (p2 := 60) rfl (zgo rfl (z_goto cd_X12_correct_60 (p := 111) rfl (zgo rfl (z_iinc cd_X12_correct_111 ki_1 rfl rfl (p := 114) rfl (zgo rfl (z_goto cd_X12_correct_114 (p := 39) rfl (zcut (p := 39) rfl rfl))))))) (zgo rfl (z_aload_n cd_X12_correct_63 (j := 0) rfl rfl (p := 64) rfl (zgo rfl (z_getR cd_X12_correct_64 fd_X12_9 (p := 67) rfl (fun _ => (zgo rfl (z_aload_n cd_X12_correct_67 (j := 0) rfl rfl (p := 68) rfl (zgo rfl (z_getR cd_X12_correct_68 fd_X12_13 (p := 71) rfl (fun _ => (zgo rfl (z_cs0 cd_X12_correct_71 (zs (key := 430) (by decide)) cl_X12_c430 rfl rfl rfl rfl (p := 74) rfl (fun _ => (zgo rfl (z_aload_n cd_X12_correct_74 (j := 0) rfl rfl (p := 75) rfl (zgo rfl (z_getR cd_X12_correct_75 fd_X12_13 (p := 78) rfl (fun _ => (zgo rfl (z_iload_n cd_X12_correct_78 (j := 1) rfl rfl (p := 79) rfl (zgo rfl (z_iload cd_X12_correct_79 rfl (p := 81) rfl (zgo rfl (z_cs0 cd_X12_correct_81 (zs (key := 385) (by decide)) cl_X12_c385 rfl rfl rfl rfl (p := 84) rfl (fun _ => (zgo rfl (z_aload_n cd_X12_correct_84 (j := 0) rfl rfl (p := 85) rfl (zgo rfl (z_getR cd_X12_correct_85 fd_X12_13 (p := 88) rfl (fun _ => (zgo rfl (z_iload_n cd_X12_correct_88 (j := 2) rfl rfl (p := 89) rfl (zgo rfl (z_cs1 cd_X12_correct_89 (zs (key := 451) (by decide)) cl_X12_c451 rfl rfl rfl rfl (p := 92) rfl (fun _ => (zgo rfl (z_istore cd_X12_correct_92 rfl (p := 94) rfl (zgo rfl (z_iload cd_X12_correct_94 rfl (p := 96) rfl (zgo rfl (z_iload cd_X12_correct_96 rfl (p := 98) rfl (zgo rfl (z_ic_lt cd_X12_correct_98 (p := 104) rfl (p2 := 101) rfl (zgo rfl (z_iload cd_X12_correct_104 rfl (p := 106) rfl (zgo rfl (z_istore_n cd_X12_correct_106 (j := 3) rfl rfl (p := 107) rfl (zgo rfl (z_iload cd_X12_correct_107 rfl (p := 109) rfl (zgo rfl (z_istore cd_X12_correct_109 rfl (p := 111) rfl (zgo rfl (z_iinc cd_X12_correct_111 ki_1 rfl rfl (p := 114) rfl (zgo rfl (z_goto cd_X12_correct_114 (p := 39) rfl (zcut (p := 39) rfl rfl))))))))))))) (zgo rfl (z_goto cd_X12_correct_101 (p := 111) rfl (zgo rfl (z_iinc cd_X12_correct_111 ki_1 rfl rfl (p := 114) rfl (zgo rfl (z_goto cd_X12_correct_114 (p := 39) rfl (zcut (p := 39) rfl rfl))))))))))))))))))))))))))))))))))))))))))))))))))))))))))))))))))))))))))
theorem cd_X12_doesReach_0 : ylk m_X12_doesReach.2.2.2.2.1 0 = some (.aload_n 0) := by decide +kernel
theorem cd_X12_doesReach_1 : ylk m_X12_doesReach.2.2.2.2.1 1 = some (.getfield 9) := by decide +kernel
theorem cd_X12_doesReach_4 : ylk m_X12_doesReach.2.2.2.2.1 4 = some (.iload_n 1) := by decide +kernel
theorem cd_X12_doesReach_5 : ylk m_X12_doesReach.2.2.2.2.1 5 = some (.iconst 3) := by decide +kernel
theorem cd_X12_doesReach_6 : ylk m_X12_doesReach.2.2.2.2.1 6 = some (.invokestatic 54) := by decide +kernel
theorem cd_X12_doesReach_9 : ylk m_X12_doesReach.2.2.2.2.1 9 = some (.iaload) := by decide +kernel
theorem cd_X12_doesReach_10 : ylk m_X12_doesReach.2.2.2.2.1 10 = some (.istore_n 3) := by decide +kernel
theorem cd_X12_doesReach_11 : ylk m_X12_doesReach.2.2.2.2.1 11 = some (.iload_n 3) := by decide +kernel
theorem cd_X12_doesReach_12 : ylk m_X12_doesReach.2.2.2.2.1 12 = some (.bipush 99) := by decide +kernel
theorem cd_X12_doesReach_14 : ylk m_X12_doesReach.2.2.2.2.1 14 = some (.if_icmp .eq 22) := by decide +kernel
theorem cd_X12_doesReach_17 : ylk m_X12_doesReach.2.2.2.2.1 17 = some (.iload_n 3) := by decide +kernel
theorem cd_X12_doesReach_18 : ylk m_X12_doesReach.2.2.2.2.1 18 = some (.iload_n 2) := by decide +kernel
theorem cd_X12_doesReach_19 : ylk m_X12_doesReach.2.2.2.2.1 19 = some (.if_icmp .eq 17) := by decide +kernel
theorem cd_X12_doesReach_22 : ylk m_X12_doesReach.2.2.2.2.1 22 = some (.aload_n 0) := by decide +kernel
theorem cd_X12_doesReach_23 : ylk m_X12_doesReach.2.2.2.2.1 23 = some (.getfield 9) := by decide +kernel
theorem cd_X12_doesReach_26 : ylk m_X12_doesReach.2.2.2.2.1 26 = some (.iload_n 3) := by decide +kernel
theorem cd_X12_doesReach_27 : ylk m_X12_doesReach.2.2.2.2.1 27 = some (.iconst 3) := by decide +kernel
theorem cd_X12_doesReach_28 : ylk m_X12_doesReach.2.2.2.2.1 28 = some (.invokestatic 54) := by decide +kernel
theorem cd_X12_doesReach_31 : ylk m_X12_doesReach.2.2.2.2.1 31 = some (.iaload) := by decide +kernel
theorem cd_X12_doesReach_32 : ylk m_X12_doesReach.2.2.2.2.1 32 = some (.istore_n 3) := by decide +kernel
theorem cd_X12_doesReach_33 : ylk m_X12_doesReach.2.2.2.2.1 33 = some (.goto (-22)) := by decide +kernel
theorem cd_X12_doesReach_36 : ylk m_X12_doesReach.2.2.2.2.1 36 = some (.iload_n 3) := by decide +kernel
theorem cd_X12_doesReach_37 : ylk m_X12_doesReach.2.2.2.2.1 37 = some (.iload_n 2) := by decide +kernel
theorem cd_X12_doesReach_38 : ylk m_X12_doesReach.2.2.2.2.1 38 = some (.if_icmp .ne 7) := by decide +kernel
theorem cd_X12_doesReach_41 : ylk m_X12_doesReach.2.2.2.2.1 41 = some (.iconst 1) := by decide +kernel
theorem cd_X12_doesReach_42 : ylk m_X12_doesReach.2.2.2.2.1 42 = some (.goto 4) := by decide +kernel
theorem cd_X12_doesReach_45 : ylk m_X12_doesReach.2.2.2.2.1 45 = some (.iconst 0) := by decide +kernel
theorem cd_X12_doesReach_46 : ylk m_X12_doesReach.2.2.2.2.1 46 = some (.ireturn) := by decide +kernel
noncomputable abbrev yb_X12_doesReach (C : yC) : ySt → Option (Option Value × yM) := yrn m_X12_doesReach C
theorem en_X12_doesReach (n : Nat) (A : yM) (v0 : Nat) (v1 : Int32) (v2 : Int32) : ycall (n + 1) 189 [.ref v0, .int v1, .int v2] A = ygR A v0 11 0 (fun a1 => (yi ((ycall n) 143 [.int v1, .int (3 : Int32)] A)).bind (fun z2 => yrd z2.2 a1 z2.1 (fun x3 => yb_X12_doesReach (ycall n) (11, [some (.ref v0), none, some (.int v2), some (.int x3)], [], z2.2)))) := (ybig_blk 8 _).trans (z_aload_n cd_X12_doesReach_0 (j := 0) rfl rfl (p := 1) rfl (zgo rfl (z_getR cd_X12_doesReach_1 fd_X12_9 (p := 4) rfl (fun _ => (zgo rfl (z_iload_n cd_X12_doesReach_4 (j := 1) rfl rfl (p := 5) rfl (zgo rfl (z_iconst cd_X12_doesReach_5 ki_3 (p := 6) rfl (zgo rfl (z_cs1 cd_X12_doesReach_6 (zs (key := 163) (by decide)) cl_X12_c163 rfl rfl rfl rfl (p := 9) rfl (fun _ => (zgo rfl (z_iaload cd_X12_doesReach_9 (p := 10) rfl (fun _ => (zgo rfl (z_istore_n cd_X12_doesReach_10 (j := 3) rfl rfl (p := 11) rfl (zcut (p := 11) rfl rfl)))))))))))))))))
theorem bk_X12_doesReach_11 (C : yC) (A : yM) (v0 : Nat) (v2 : Int32) (v3 : Int32) : yb_X12_doesReach C (11, [some (.ref v0), none, some (.int v2), some (.int v3)], [], A) = if v3 = (99 : Int32) then (yb_X12_doesReach C (36, [none, none, some (.int v2), some (.int v3)], [], A)) else (if v3 = v2 then (yb_X12_doesReach C (36, [none, none, some (.int v2), some (.int v3)], [], A)) else (ygR A v0 11 0 (fun a1 => (yi (C 143 [.int v3, .int (3 : Int32)] A)).bind (fun z2 => yrd z2.2 a1 z2.1 (fun x3 => yb_X12_doesReach C (11, [some (.ref v0), none, some (.int v2), some (.int x3)], [], z2.2)))))) := (ybig_blk 15 _).trans (z_iload_n cd_X12_doesReach_11 (j := 3) rfl rfl (p := 12) rfl (zgo rfl (z_bipush cd_X12_doesReach_12 kb_99 (p := 14) rfl (zgo rfl (z_ic_eq cd_X12_doesReach_14 (p := 36) rfl (p2 := 17) rfl (zcut (p := 36) rfl rfl) (zgo rfl (z_iload_n cd_X12_doesReach_17 (j := 3) rfl rfl (p := 18) rfl (zgo rfl (z_iload_n cd_X12_doesReach_18 (j := 2) rfl rfl (p := 19) rfl (zgo rfl (z_ic_eq cd_X12_doesReach_19 (p := 36) rfl (p2 := 22) rfl (zcut (p := 36) rfl rfl) (zgo rfl (z_aload_n cd_X12_doesReach_22 (j := 0) rfl rfl (p := 23) rfl (zgo rfl (z_getR cd_X12_doesReach_23 fd_X12_9 (p := 26) rfl (fun _ => (zgo rfl (z_iload_n cd_X12_doesReach_26 (j := 3) rfl rfl (p := 27) rfl (zgo rfl (z_iconst cd_X12_doesReach_27 ki_3 (p := 28) rfl (zgo rfl (z_cs1 cd_X12_doesReach_28 (zs (key := 163) (by decide)) cl_X12_c163 rfl rfl rfl rfl (p := 31) rfl (fun _ => (zgo rfl (z_iaload cd_X12_doesReach_31 (p := 32) rfl (fun _ => (zgo rfl (z_istore_n cd_X12_doesReach_32 (j := 3) rfl rfl (p := 33) rfl (zgo rfl (z_goto cd_X12_doesReach_33 (p := 11) rfl (zcut (p := 11) rfl rfl)))))))))))))))))))))))))))))))
theorem bk_X12_doesReach_36 (C : yC) (A : yM) (v2 : Int32) (v3 : Int32) : yb_X12_doesReach C (36, [none, none, some (.int v2), some (.int v3)], [], A) = if v3 = v2 then (if (1 : Int32) = 0 ∨ (1 : Int32) = 1 then some (some (.int (1 : Int32)), A) else none) else (if (0 : Int32) = 0 ∨ (0 : Int32) = 1 then some (some (.int (0 : Int32)), A) else none) := (ybig_blk 7 _).trans (z_iload_n cd_X12_doesReach_36 (j := 3) rfl rfl (p := 37) rfl (zgo rfl (z_iload_n cd_X12_doesReach_37 (j := 2) rfl rfl (p := 38) rfl (zgo rfl (z_ic_ne cd_X12_doesReach_38 (p := 45) rfl (p2 := 41) rfl (zgo rfl (z_iconst cd_X12_doesReach_41 ki_1 (p := 42) rfl (zgo rfl (z_goto cd_X12_doesReach_42 (p := 46) rfl (zgo rfl (z_zret cd_X12_doesReach_46 rfl)))))) (zgo rfl (z_iconst cd_X12_doesReach_45 ki_0 (p := 46) rfl (zgo rfl (z_zret cd_X12_doesReach_46 rfl)))))))))
theorem cd_X12_depthOf_0 : ylk m_X12_depthOf.2.2.2.2.1 0 = some (.iconst 1) := by decide +kernel
theorem cd_X12_depthOf_1 : ylk m_X12_depthOf.2.2.2.2.1 1 = some (.istore_n 2) := by decide +kernel
theorem cd_X12_depthOf_2 : ylk m_X12_depthOf.2.2.2.2.1 2 = some (.aload_n 0) := by decide +kernel
theorem cd_X12_depthOf_3 : ylk m_X12_depthOf.2.2.2.2.1 3 = some (.getfield 9) := by decide +kernel
theorem cd_X12_depthOf_6 : ylk m_X12_depthOf.2.2.2.2.1 6 = some (.iload_n 1) := by decide +kernel
theorem cd_X12_depthOf_7 : ylk m_X12_depthOf.2.2.2.2.1 7 = some (.iconst 3) := by decide +kernel
theorem cd_X12_depthOf_8 : ylk m_X12_depthOf.2.2.2.2.1 8 = some (.invokestatic 54) := by decide +kernel
theorem cd_X12_depthOf_11 : ylk m_X12_depthOf.2.2.2.2.1 11 = some (.iaload) := by decide +kernel
theorem cd_X12_depthOf_12 : ylk m_X12_depthOf.2.2.2.2.1 12 = some (.istore_n 3) := by decide +kernel
theorem cd_X12_depthOf_13 : ylk m_X12_depthOf.2.2.2.2.1 13 = some (.iload_n 3) := by decide +kernel
theorem cd_X12_depthOf_14 : ylk m_X12_depthOf.2.2.2.2.1 14 = some (.bipush 99) := by decide +kernel
theorem cd_X12_depthOf_16 : ylk m_X12_depthOf.2.2.2.2.1 16 = some (.if_icmp .eq 20) := by decide +kernel
theorem cd_X12_depthOf_19 : ylk m_X12_depthOf.2.2.2.2.1 19 = some (.iinc 2 1) := by decide +kernel
theorem cd_X12_depthOf_22 : ylk m_X12_depthOf.2.2.2.2.1 22 = some (.aload_n 0) := by decide +kernel
theorem cd_X12_depthOf_23 : ylk m_X12_depthOf.2.2.2.2.1 23 = some (.getfield 9) := by decide +kernel
theorem cd_X12_depthOf_26 : ylk m_X12_depthOf.2.2.2.2.1 26 = some (.iload_n 3) := by decide +kernel
theorem cd_X12_depthOf_27 : ylk m_X12_depthOf.2.2.2.2.1 27 = some (.iconst 3) := by decide +kernel
theorem cd_X12_depthOf_28 : ylk m_X12_depthOf.2.2.2.2.1 28 = some (.invokestatic 54) := by decide +kernel
theorem cd_X12_depthOf_31 : ylk m_X12_depthOf.2.2.2.2.1 31 = some (.iaload) := by decide +kernel
theorem cd_X12_depthOf_32 : ylk m_X12_depthOf.2.2.2.2.1 32 = some (.istore_n 3) := by decide +kernel
theorem cd_X12_depthOf_33 : ylk m_X12_depthOf.2.2.2.2.1 33 = some (.goto (-20)) := by decide +kernel
theorem cd_X12_depthOf_36 : ylk m_X12_depthOf.2.2.2.2.1 36 = some (.iload_n 2) := by decide +kernel
theorem cd_X12_depthOf_37 : ylk m_X12_depthOf.2.2.2.2.1 37 = some (.ireturn) := by decide +kernel
noncomputable abbrev yb_X12_depthOf (C : yC) : ySt → Option (Option Value × yM) := yrn m_X12_depthOf C
theorem en_X12_depthOf (n : Nat) (A : yM) (v0 : Nat) (v1 : Int32) : ycall (n + 1) 190 [.ref v0, .int v1] A = ygR A v0 11 0 (fun a1 => (yi ((ycall n) 143 [.int v1, .int (3 : Int32)] A)).bind (fun z2 => yrd z2.2 a1 z2.1 (fun x3 => yb_X12_depthOf (ycall n) (13, [some (.ref v0), none, some (.int (1 : Int32)), some (.int x3)], [], z2.2)))) := (ybig_blk 10 _).trans (z_iconst cd_X12_depthOf_0 ki_1 (p := 1) rfl (zgo rfl (z_istore_n cd_X12_depthOf_1 (j := 2) rfl rfl (p := 2) rfl (zgo rfl (z_aload_n cd_X12_depthOf_2 (j := 0) rfl rfl (p := 3) rfl (zgo rfl (z_getR cd_X12_depthOf_3 fd_X12_9 (p := 6) rfl (fun _ => (zgo rfl (z_iload_n cd_X12_depthOf_6 (j := 1) rfl rfl (p := 7) rfl (zgo rfl (z_iconst cd_X12_depthOf_7 ki_3 (p := 8) rfl (zgo rfl (z_cs1 cd_X12_depthOf_8 (zs (key := 163) (by decide)) cl_X12_c163 rfl rfl rfl rfl (p := 11) rfl (fun _ => (zgo rfl (z_iaload cd_X12_depthOf_11 (p := 12) rfl (fun _ => (zgo rfl (z_istore_n cd_X12_depthOf_12 (j := 3) rfl rfl (p := 13) rfl (zcut (p := 13) rfl rfl)))))))))))))))))))))
theorem bk_X12_depthOf_13 (C : yC) (A : yM) (v0 : Nat) (v2 : Int32) (v3 : Int32) : yb_X12_depthOf C (13, [some (.ref v0), none, some (.int v2), some (.int v3)], [], A) = if v3 = (99 : Int32) then (some (some (.int v2), A)) else (ygR A v0 11 0 (fun a1 => (yi (C 143 [.int v3, .int (3 : Int32)] A)).bind (fun z2 => yrd z2.2 a1 z2.1 (fun x3 => yb_X12_depthOf C (13, [some (.ref v0), none, some (.int (v2 + (1 : Int32))), some (.int x3)], [], z2.2))))) := (ybig_blk 13 _).trans (z_iload_n cd_X12_depthOf_13 (j := 3) rfl rfl (p := 14) rfl (zgo rfl (z_bipush cd_X12_depthOf_14 kb_99 (p := 16) rfl (zgo rfl (z_ic_eq cd_X12_depthOf_16 (p := 36) rfl (p2 := 19) rfl (zgo rfl (z_iload_n cd_X12_depthOf_36 (j := 2) rfl rfl (p := 37) rfl (zgo rfl (z_iret cd_X12_depthOf_37 rfl)))) (zgo rfl (z_iinc cd_X12_depthOf_19 ki_1 rfl rfl (p := 22) rfl (zgo rfl (z_aload_n cd_X12_depthOf_22 (j := 0) rfl rfl (p := 23) rfl (zgo rfl (z_getR cd_X12_depthOf_23 fd_X12_9 (p := 26) rfl (fun _ => (zgo rfl (z_iload_n cd_X12_depthOf_26 (j := 3) rfl rfl (p := 27) rfl (zgo rfl (z_iconst cd_X12_depthOf_27 ki_3 (p := 28) rfl (zgo rfl (z_cs1 cd_X12_depthOf_28 (zs (key := 163) (by decide)) cl_X12_c163 rfl rfl rfl rfl (p := 31) rfl (fun _ => (zgo rfl (z_iaload cd_X12_depthOf_31 (p := 32) rfl (fun _ => (zgo rfl (z_istore_n cd_X12_depthOf_32 (j := 3) rfl rfl (p := 33) rfl (zgo rfl (z_goto cd_X12_depthOf_33 (p := 13) rfl (zcut (p := 13) rfl rfl)))))))))))))))))))))))))))
theorem cd_X12_cited_0 : ylk m_X12_cited.2.2.2.2.1 0 = some (.aload_n 0) := by decide +kernel
theorem cd_X12_cited_1 : ylk m_X12_cited.2.2.2.2.1 1 = some (.iload_n 1) := by decide +kernel
theorem cd_X12_cited_2 : ylk m_X12_cited.2.2.2.2.1 2 = some (.invokevirtual 118) := by decide +kernel
theorem cd_X12_cited_5 : ylk m_X12_cited.2.2.2.2.1 5 = some (.ifCond .eq 12) := by decide +kernel
theorem cd_X12_cited_8 : ylk m_X12_cited.2.2.2.2.1 8 = some (.iload_n 2) := by decide +kernel
theorem cd_X12_cited_9 : ylk m_X12_cited.2.2.2.2.1 9 = some (.iconst 0) := by decide +kernel
theorem cd_X12_cited_10 : ylk m_X12_cited.2.2.2.2.1 10 = some (.iconst 1) := by decide +kernel
theorem cd_X12_cited_11 : ylk m_X12_cited.2.2.2.2.1 11 = some (.invokestatic 46) := by decide +kernel
theorem cd_X12_cited_14 : ylk m_X12_cited.2.2.2.2.1 14 = some (.ifCond .ne 5) := by decide +kernel
theorem cd_X12_cited_17 : ylk m_X12_cited.2.2.2.2.1 17 = some (.iconst (-1)) := by decide +kernel
theorem cd_X12_cited_18 : ylk m_X12_cited.2.2.2.2.1 18 = some (.ireturn) := by decide +kernel
theorem cd_X12_cited_19 : ylk m_X12_cited.2.2.2.2.1 19 = some (.iload_n 2) := by decide +kernel
theorem cd_X12_cited_20 : ylk m_X12_cited.2.2.2.2.1 20 = some (.iconst 1) := by decide +kernel
theorem cd_X12_cited_21 : ylk m_X12_cited.2.2.2.2.1 21 = some (.if_icmp .ne 9) := by decide +kernel
theorem cd_X12_cited_24 : ylk m_X12_cited.2.2.2.2.1 24 = some (.aload_n 0) := by decide +kernel
theorem cd_X12_cited_25 : ylk m_X12_cited.2.2.2.2.1 25 = some (.iload_n 1) := by decide +kernel
theorem cd_X12_cited_26 : ylk m_X12_cited.2.2.2.2.1 26 = some (.invokevirtual 177) := by decide +kernel
theorem cd_X12_cited_29 : ylk m_X12_cited.2.2.2.2.1 29 = some (.ireturn) := by decide +kernel
theorem cd_X12_cited_30 : ylk m_X12_cited.2.2.2.2.1 30 = some (.iconst 0) := by decide +kernel
theorem cd_X12_cited_31 : ylk m_X12_cited.2.2.2.2.1 31 = some (.istore_n 3) := by decide +kernel
theorem cd_X12_cited_32 : ylk m_X12_cited.2.2.2.2.1 32 = some (.iconst 0) := by decide +kernel
theorem cd_X12_cited_33 : ylk m_X12_cited.2.2.2.2.1 33 = some (.istore 4) := by decide +kernel
theorem cd_X12_cited_35 : ylk m_X12_cited.2.2.2.2.1 35 = some (.iload 4) := by decide +kernel
theorem cd_X12_cited_37 : ylk m_X12_cited.2.2.2.2.1 37 = some (.aload_n 0) := by decide +kernel
theorem cd_X12_cited_38 : ylk m_X12_cited.2.2.2.2.1 38 = some (.getfield 9) := by decide +kernel
theorem cd_X12_cited_41 : ylk m_X12_cited.2.2.2.2.1 41 = some (.iconst 1) := by decide +kernel
theorem cd_X12_cited_42 : ylk m_X12_cited.2.2.2.2.1 42 = some (.iaload) := by decide +kernel
theorem cd_X12_cited_43 : ylk m_X12_cited.2.2.2.2.1 43 = some (.if_icmp .ge 27) := by decide +kernel
theorem cd_X12_cited_46 : ylk m_X12_cited.2.2.2.2.1 46 = some (.iload_n 3) := by decide +kernel
theorem cd_X12_cited_47 : ylk m_X12_cited.2.2.2.2.1 47 = some (.aload_n 0) := by decide +kernel
theorem cd_X12_cited_48 : ylk m_X12_cited.2.2.2.2.1 48 = some (.iload 4) := by decide +kernel
theorem cd_X12_cited_50 : ylk m_X12_cited.2.2.2.2.1 50 = some (.iload_n 1) := by decide +kernel
theorem cd_X12_cited_51 : ylk m_X12_cited.2.2.2.2.1 51 = some (.invokevirtual 180) := by decide +kernel
theorem cd_X12_cited_54 : ylk m_X12_cited.2.2.2.2.1 54 = some (.ifCond .eq 7) := by decide +kernel
theorem cd_X12_cited_57 : ylk m_X12_cited.2.2.2.2.1 57 = some (.iconst 1) := by decide +kernel
theorem cd_X12_cited_58 : ylk m_X12_cited.2.2.2.2.1 58 = some (.goto 4) := by decide +kernel
theorem cd_X12_cited_61 : ylk m_X12_cited.2.2.2.2.1 61 = some (.iconst 0) := by decide +kernel
theorem cd_X12_cited_62 : ylk m_X12_cited.2.2.2.2.1 62 = some (.iadd) := by decide +kernel
theorem cd_X12_cited_63 : ylk m_X12_cited.2.2.2.2.1 63 = some (.istore_n 3) := by decide +kernel
theorem cd_X12_cited_64 : ylk m_X12_cited.2.2.2.2.1 64 = some (.iinc 4 1) := by decide +kernel
theorem cd_X12_cited_67 : ylk m_X12_cited.2.2.2.2.1 67 = some (.goto (-32)) := by decide +kernel
theorem cd_X12_cited_70 : ylk m_X12_cited.2.2.2.2.1 70 = some (.iload_n 3) := by decide +kernel
theorem cd_X12_cited_71 : ylk m_X12_cited.2.2.2.2.1 71 = some (.ireturn) := by decide +kernel
noncomputable abbrev yb_X12_cited (C : yC) : ySt → Option (Option Value × yM) := yrn m_X12_cited C
theorem en_X12_cited (n : Nat) (A : yM) (v0 : Nat) (v1 : Int32) (v2 : Int32) : ycall (n + 1) 191 [.ref v0, .int v1, .int v2] A = (yi (yvt [(11, 145)] (ycall n) [.ref v0, .int v1] A)).bind (fun z1 => if z1.1 = 0 then (some (some (.int (-1 : Int32)), z1.2)) else ((yi ((ycall n) 138 [.int v2, .int (0 : Int32), .int (1 : Int32)] z1.2)).bind (fun z2 => if z2.1 = 0 then (some (some (.int (-1 : Int32)), z2.2)) else (if v2 = (1 : Int32) then ((yi (yvt [(11, 190)] (ycall n) [.ref v0, .int v1] z2.2)).bind (fun z3 => some (some (.int z3.1), z3.2))) else (yb_X12_cited (ycall n) (35, [some (.ref v0), some (.int v1), none, some (.int (0 : Int32)), some (.int (0 : Int32))], [], z2.2)))))) := (ybig_blk 17 _).trans (z_aload_n cd_X12_cited_0 (j := 0) rfl rfl (p := 1) rfl (zgo rfl (z_iload_n cd_X12_cited_1 (j := 1) rfl rfl (p := 2) rfl (zgo rfl (z_cv1 cd_X12_cited_2 (zv (key := 354) (by decide)) cl_X12_c354 rfl rfl rfl rfl (p := 5) rfl (fun _ => (zgo rfl (z_if_eq cd_X12_cited_5 (p := 17) rfl (p2 := 8) rfl (zgo rfl (z_iconst cd_X12_cited_17 ki_m1 (p := 18) rfl (zgo rfl (z_iret cd_X12_cited_18 rfl)))) (zgo rfl (z_iload_n cd_X12_cited_8 (j := 2) rfl rfl (p := 9) rfl (zgo rfl (z_iconst cd_X12_cited_9 ki_0 (p := 10) rfl (zgo rfl (z_iconst cd_X12_cited_10 ki_1 (p := 11) rfl (zgo rfl (z_cs1 cd_X12_cited_11 (zs (key := 139) (by decide)) cl_X12_c139 rfl rfl rfl rfl (p := 14) rfl (fun _ => (zgo rfl (z_if_ne cd_X12_cited_14 (p := 19) rfl (p2 := 17) rfl (zgo rfl (z_iconst cd_X12_cited_17 ki_m1 (p := 18) rfl (zgo rfl (z_iret cd_X12_cited_18 rfl)))) (zgo rfl (z_iload_n cd_X12_cited_19 (j := 2) rfl rfl (p := 20) rfl (zgo rfl (z_iconst cd_X12_cited_20 ki_1 (p := 21) rfl (zgo rfl (z_ic_ne cd_X12_cited_21 (p := 30) rfl (p2 := 24) rfl (zgo rfl (z_aload_n cd_X12_cited_24 (j := 0) rfl rfl (p := 25) rfl (zgo rfl (z_iload_n cd_X12_cited_25 (j := 1) rfl rfl (p := 26) rfl (zgo rfl (z_cv1 cd_X12_cited_26 (zv (key := 531) (by decide)) cl_X12_c531 rfl rfl rfl rfl (p := 29) rfl (fun _ => (zgo rfl (z_iret cd_X12_cited_29 rfl))))))))) (zgo rfl (z_iconst cd_X12_cited_30 ki_0 (p := 31) rfl (zgo rfl (z_istore_n cd_X12_cited_31 (j := 3) rfl rfl (p := 32) rfl (zgo rfl (z_iconst cd_X12_cited_32 ki_0 (p := 33) rfl (zgo rfl (z_istore cd_X12_cited_33 rfl (p := 35) rfl (zcut (p := 35) rfl rfl))))))))))))))))))))))))))))))))))
theorem bk_X12_cited_35 (C : yC) (A : yM) (v0 : Nat) (v1 : Int32) (v3 : Int32) (v4 : Int32) : yb_X12_cited C (35, [some (.ref v0), some (.int v1), none, some (.int v3), some (.int v4)], [], A) = ygR A v0 11 0 (fun a1 => yrd A a1 (1 : Int32) (fun x2 => if x2 ≤ v4 then (some (some (.int v3), A)) else ((yi (yvt [(11, 189)] C [.ref v0, .int v4, .int v1] A)).bind (fun z3 => if z3.1 = 0 then (yb_X12_cited C (35, [some (.ref v0), some (.int v1), none, some (.int (v3 + (0 : Int32))), some (.int (v4 + (1 : Int32)))], [], z3.2)) else (yb_X12_cited C (35, [some (.ref v0), some (.int v1), none, some (.int (v3 + (1 : Int32))), some (.int (v4 + (1 : Int32)))], [], z3.2)))))) := (ybig_blk 19 _).trans (z_iload cd_X12_cited_35 rfl (p := 37) rfl (zgo rfl (z_aload_n cd_X12_cited_37 (j := 0) rfl rfl (p := 38) rfl (zgo rfl (z_getR cd_X12_cited_38 fd_X12_9 (p := 41) rfl (fun _ => (zgo rfl (z_iconst cd_X12_cited_41 ki_1 (p := 42) rfl (zgo rfl (z_iaload cd_X12_cited_42 (p := 43) rfl (fun _ => (zgo rfl (z_ic_ge cd_X12_cited_43 (p := 70) rfl (p2 := 46) rfl (zgo rfl (z_iload_n cd_X12_cited_70 (j := 3) rfl rfl (p := 71) rfl (zgo rfl (z_iret cd_X12_cited_71 rfl)))) (zgo rfl (z_iload_n cd_X12_cited_46 (j := 3) rfl rfl (p := 47) rfl (zgo rfl (z_aload_n cd_X12_cited_47 (j := 0) rfl rfl (p := 48) rfl (zgo rfl (z_iload cd_X12_cited_48 rfl (p := 50) rfl (zgo rfl (z_iload_n cd_X12_cited_50 (j := 1) rfl rfl (p := 51) rfl (zgo rfl (z_cv1 cd_X12_cited_51 (zv (key := 540) (by decide)) cl_X12_c540 rfl rfl rfl rfl (p := 54) rfl (fun _ => (zgo rfl (z_if_eq cd_X12_cited_54 (p := 61) rfl (p2 := 57) rfl (zgo rfl (z_iconst cd_X12_cited_61 ki_0 (p := 62) rfl (zgo rfl (z_iadd cd_X12_cited_62 (p := 63) rfl (zgo rfl (z_istore_n cd_X12_cited_63 (j := 3) rfl rfl (p := 64) rfl (zgo rfl (z_iinc cd_X12_cited_64 ki_1 rfl rfl (p := 67) rfl (zgo rfl (z_goto cd_X12_cited_67 (p := 35) rfl (zcut (p := 35) rfl rfl))))))))))) (zgo rfl (z_iconst cd_X12_cited_57 ki_1 (p := 58) rfl (zgo rfl (z_goto cd_X12_cited_58 (p := 62) rfl (zgo rfl (z_iadd cd_X12_cited_62 (p := 63) rfl (zgo rfl (z_istore_n cd_X12_cited_63 (j := 3) rfl rfl (p := 64) rfl (zgo rfl (z_iinc cd_X12_cited_64 ki_1 rfl rfl (p := 67) rfl (zgo rfl (z_goto cd_X12_cited_67 (p := 35) rfl (zcut (p := 35) rfl rfl)))))))))))))))))))))))))))))))))))))))
theorem cd_X12_worthOf_0 : ylk m_X12_worthOf.2.2.2.2.1 0 = some (.ldc2_w 183) := by decide +kernel
theorem cd_X12_worthOf_3 : ylk m_X12_worthOf.2.2.2.2.1 3 = some (.lstore_n 2) := by decide +kernel
theorem cd_X12_worthOf_4 : ylk m_X12_worthOf.2.2.2.2.1 4 = some (.iload_n 1) := by decide +kernel
theorem cd_X12_worthOf_5 : ylk m_X12_worthOf.2.2.2.2.1 5 = some (.iconst 1) := by decide +kernel
theorem cd_X12_worthOf_6 : ylk m_X12_worthOf.2.2.2.2.1 6 = some (.iadd) := by decide +kernel
theorem cd_X12_worthOf_7 : ylk m_X12_worthOf.2.2.2.2.1 7 = some (.istore 4) := by decide +kernel
theorem cd_X12_worthOf_9 : ylk m_X12_worthOf.2.2.2.2.1 9 = some (.iload 4) := by decide +kernel
theorem cd_X12_worthOf_11 : ylk m_X12_worthOf.2.2.2.2.1 11 = some (.aload_n 0) := by decide +kernel
theorem cd_X12_worthOf_12 : ylk m_X12_worthOf.2.2.2.2.1 12 = some (.getfield 9) := by decide +kernel
theorem cd_X12_worthOf_15 : ylk m_X12_worthOf.2.2.2.2.1 15 = some (.iconst 1) := by decide +kernel
theorem cd_X12_worthOf_16 : ylk m_X12_worthOf.2.2.2.2.1 16 = some (.iaload) := by decide +kernel
theorem cd_X12_worthOf_17 : ylk m_X12_worthOf.2.2.2.2.1 17 = some (.if_icmp .ge 41) := by decide +kernel
theorem cd_X12_worthOf_20 : ylk m_X12_worthOf.2.2.2.2.1 20 = some (.lload_n 2) := by decide +kernel
theorem cd_X12_worthOf_21 : ylk m_X12_worthOf.2.2.2.2.1 21 = some (.aload_n 0) := by decide +kernel
theorem cd_X12_worthOf_22 : ylk m_X12_worthOf.2.2.2.2.1 22 = some (.getfield 9) := by decide +kernel
theorem cd_X12_worthOf_25 : ylk m_X12_worthOf.2.2.2.2.1 25 = some (.iload 4) := by decide +kernel
theorem cd_X12_worthOf_27 : ylk m_X12_worthOf.2.2.2.2.1 27 = some (.iconst 3) := by decide +kernel
theorem cd_X12_worthOf_28 : ylk m_X12_worthOf.2.2.2.2.1 28 = some (.invokestatic 54) := by decide +kernel
theorem cd_X12_worthOf_31 : ylk m_X12_worthOf.2.2.2.2.1 31 = some (.iaload) := by decide +kernel
theorem cd_X12_worthOf_32 : ylk m_X12_worthOf.2.2.2.2.1 32 = some (.iload_n 1) := by decide +kernel
theorem cd_X12_worthOf_33 : ylk m_X12_worthOf.2.2.2.2.1 33 = some (.if_icmp .ne 16) := by decide +kernel
theorem cd_X12_worthOf_36 : ylk m_X12_worthOf.2.2.2.2.1 36 = some (.aload_n 0) := by decide +kernel
theorem cd_X12_worthOf_37 : ylk m_X12_worthOf.2.2.2.2.1 37 = some (.iload 4) := by decide +kernel
theorem cd_X12_worthOf_39 : ylk m_X12_worthOf.2.2.2.2.1 39 = some (.invokevirtual 185) := by decide +kernel
theorem cd_X12_worthOf_42 : ylk m_X12_worthOf.2.2.2.2.1 42 = some (.ldc2_w 189) := by decide +kernel
theorem cd_X12_worthOf_45 : ylk m_X12_worthOf.2.2.2.2.1 45 = some (.ldiv) := by decide +kernel
theorem cd_X12_worthOf_46 : ylk m_X12_worthOf.2.2.2.2.1 46 = some (.goto 4) := by decide +kernel
theorem cd_X12_worthOf_49 : ylk m_X12_worthOf.2.2.2.2.1 49 = some (.lconst 0) := by decide +kernel
theorem cd_X12_worthOf_50 : ylk m_X12_worthOf.2.2.2.2.1 50 = some (.ladd) := by decide +kernel
theorem cd_X12_worthOf_51 : ylk m_X12_worthOf.2.2.2.2.1 51 = some (.lstore_n 2) := by decide +kernel
theorem cd_X12_worthOf_52 : ylk m_X12_worthOf.2.2.2.2.1 52 = some (.iinc 4 1) := by decide +kernel
theorem cd_X12_worthOf_55 : ylk m_X12_worthOf.2.2.2.2.1 55 = some (.goto (-46)) := by decide +kernel
theorem cd_X12_worthOf_58 : ylk m_X12_worthOf.2.2.2.2.1 58 = some (.lload_n 2) := by decide +kernel
theorem cd_X12_worthOf_59 : ylk m_X12_worthOf.2.2.2.2.1 59 = some (.lreturn) := by decide +kernel
noncomputable abbrev yb_X12_worthOf (C : yC) : ySt → Option (Option Value × yM) := yrn m_X12_worthOf C
theorem en_X12_worthOf (n : Nat) (A : yM) (v0 : Nat) (v1 : Int32) : ycall (n + 1) 192 [.ref v0, .int v1] A = yb_X12_worthOf (ycall n) (9, [some (.ref v0), some (.int v1), some (.long (4096 : Int64)), none, some (.int (v1 + (1 : Int32)))], [], A) := (ybig_blk 7 _).trans (z_ldc2_w cd_X12_worthOf_0 ct_X12_183 (p := 3) rfl (zgo rfl (z_lstore_n cd_X12_worthOf_3 (j := 2) rfl rfl (p := 4) rfl (zgo rfl (z_iload_n cd_X12_worthOf_4 (j := 1) rfl rfl (p := 5) rfl (zgo rfl (z_iconst cd_X12_worthOf_5 ki_1 (p := 6) rfl (zgo rfl (z_iadd cd_X12_worthOf_6 (p := 7) rfl (zgo rfl (z_istore cd_X12_worthOf_7 rfl (p := 9) rfl (zcut (p := 9) rfl rfl))))))))))))
theorem bk_X12_worthOf_9 (C : yC) (A : yM) (v0 : Nat) (v1 : Int32) (v2 : Int64) (v4 : Int32) : yb_X12_worthOf C (9, [some (.ref v0), some (.int v1), some (.long v2), none, some (.int v4)], [], A) = ygR A v0 11 0 (fun a1 => yrd A a1 (1 : Int32) (fun x2 => if x2 ≤ v4 then (some (some (.long v2), A)) else (ygR A v0 11 0 (fun a3 => (yi (C 143 [.int v4, .int (3 : Int32)] A)).bind (fun z4 => yrd z4.2 a3 z4.1 (fun x5 => if x5 = v1 then ((yl (yvt [(11, 192)] C [.ref v0, .int v4] z4.2)).bind (fun z6 => if (2 : Int64) = 0 then none else (yb_X12_worthOf C (9, [some (.ref v0), some (.int v1), some (.long (v2 + (z6.1 / (2 : Int64)))), none, some (.int (v4 + (1 : Int32)))], [], z6.2)))) else (yb_X12_worthOf C (9, [some (.ref v0), some (.int v1), some (.long (v2 + (0 : Int64))), none, some (.int (v4 + (1 : Int32)))], [], z4.2)))))))) := (ybig_blk 26 _).trans (z_iload cd_X12_worthOf_9 rfl (p := 11) rfl (zgo rfl (z_aload_n cd_X12_worthOf_11 (j := 0) rfl rfl (p := 12) rfl (zgo rfl (z_getR cd_X12_worthOf_12 fd_X12_9 (p := 15) rfl (fun _ => (zgo rfl (z_iconst cd_X12_worthOf_15 ki_1 (p := 16) rfl (zgo rfl (z_iaload cd_X12_worthOf_16 (p := 17) rfl (fun _ => (zgo rfl (z_ic_ge cd_X12_worthOf_17 (p := 58) rfl (p2 := 20) rfl (zgo rfl (z_lload_n cd_X12_worthOf_58 (j := 2) rfl rfl (p := 59) rfl (zgo rfl (z_lret cd_X12_worthOf_59 rfl)))) (zgo rfl (z_lload_n cd_X12_worthOf_20 (j := 2) rfl rfl (p := 21) rfl (zgo rfl (z_aload_n cd_X12_worthOf_21 (j := 0) rfl rfl (p := 22) rfl (zgo rfl (z_getR cd_X12_worthOf_22 fd_X12_9 (p := 25) rfl (fun _ => (zgo rfl (z_iload cd_X12_worthOf_25 rfl (p := 27) rfl (zgo rfl (z_iconst cd_X12_worthOf_27 ki_3 (p := 28) rfl (zgo rfl (z_cs1 cd_X12_worthOf_28 (zs (key := 163) (by decide)) cl_X12_c163 rfl rfl rfl rfl (p := 31) rfl (fun _ => (zgo rfl (z_iaload cd_X12_worthOf_31 (p := 32) rfl (fun _ => (zgo rfl (z_iload_n cd_X12_worthOf_32 (j := 1) rfl rfl (p := 33) rfl (zgo rfl (z_ic_ne cd_X12_worthOf_33 (p := 49) rfl (p2 := 36) rfl (zgo rfl (z_aload_n cd_X12_worthOf_36 (j := 0) rfl rfl (p := 37) rfl (zgo rfl (z_iload cd_X12_worthOf_37 rfl (p := 39) rfl (zgo rfl (z_cv2 cd_X12_worthOf_39 (zv (key := 555) (by decide)) cl_X12_c555 rfl rfl rfl rfl (p := 42) rfl (fun _ => (zgo rfl (z_ldc2_w cd_X12_worthOf_42 ct_X12_189 (p := 45) rfl (zgo rfl (z_ldiv cd_X12_worthOf_45 (p := 46) rfl (zgo rfl (z_goto cd_X12_worthOf_46 (p := 50) rfl (zgo rfl (z_ladd cd_X12_worthOf_50 (p := 51) rfl (zgo rfl (z_lstore_n cd_X12_worthOf_51 (j := 2) rfl rfl (p := 52) rfl (zgo rfl (z_iinc cd_X12_worthOf_52 ki_1 rfl rfl (p := 55) rfl (zgo rfl (z_goto cd_X12_worthOf_55 (p := 9) rfl (zcut (p := 9) rfl rfl)))))))))))))))))))))) (zgo rfl (z_lconst cd_X12_worthOf_49 kl_0 (p := 50) rfl (zgo rfl (z_ladd cd_X12_worthOf_50 (p := 51) rfl (zgo rfl (z_lstore_n cd_X12_worthOf_51 (j := 2) rfl rfl (p := 52) rfl (zgo rfl (z_iinc cd_X12_worthOf_52 ki_1 rfl rfl (p := 55) rfl (zgo rfl (z_goto cd_X12_worthOf_55 (p := 9) rfl (zcut (p := 9) rfl rfl)))))))))))))))))))))))))))))))))))))))))))))
theorem cd_X12_gcd_0 : ylk m_X12_gcd.2.2.2.2.1 0 = some (.lload_n 0) := by decide +kernel
theorem cd_X12_gcd_1 : ylk m_X12_gcd.2.2.2.2.1 1 = some (.lstore 4) := by decide +kernel
theorem cd_X12_gcd_3 : ylk m_X12_gcd.2.2.2.2.1 3 = some (.lload_n 2) := by decide +kernel
theorem cd_X12_gcd_4 : ylk m_X12_gcd.2.2.2.2.1 4 = some (.lstore 6) := by decide +kernel
theorem cd_X12_gcd_6 : ylk m_X12_gcd.2.2.2.2.1 6 = some (.lload 6) := by decide +kernel
theorem cd_X12_gcd_8 : ylk m_X12_gcd.2.2.2.2.1 8 = some (.lconst 0) := by decide +kernel
theorem cd_X12_gcd_9 : ylk m_X12_gcd.2.2.2.2.1 9 = some (.lcmp) := by decide +kernel
theorem cd_X12_gcd_10 : ylk m_X12_gcd.2.2.2.2.1 10 = some (.ifCond .eq 21) := by decide +kernel
theorem cd_X12_gcd_13 : ylk m_X12_gcd.2.2.2.2.1 13 = some (.lload 4) := by decide +kernel
theorem cd_X12_gcd_15 : ylk m_X12_gcd.2.2.2.2.1 15 = some (.lload 6) := by decide +kernel
theorem cd_X12_gcd_17 : ylk m_X12_gcd.2.2.2.2.1 17 = some (.lrem) := by decide +kernel
theorem cd_X12_gcd_18 : ylk m_X12_gcd.2.2.2.2.1 18 = some (.lstore 8) := by decide +kernel
theorem cd_X12_gcd_20 : ylk m_X12_gcd.2.2.2.2.1 20 = some (.lload 6) := by decide +kernel
theorem cd_X12_gcd_22 : ylk m_X12_gcd.2.2.2.2.1 22 = some (.lstore 4) := by decide +kernel
theorem cd_X12_gcd_24 : ylk m_X12_gcd.2.2.2.2.1 24 = some (.lload 8) := by decide +kernel
theorem cd_X12_gcd_26 : ylk m_X12_gcd.2.2.2.2.1 26 = some (.lstore 6) := by decide +kernel
theorem cd_X12_gcd_28 : ylk m_X12_gcd.2.2.2.2.1 28 = some (.goto (-22)) := by decide +kernel
theorem cd_X12_gcd_31 : ylk m_X12_gcd.2.2.2.2.1 31 = some (.lload 4) := by decide +kernel
theorem cd_X12_gcd_33 : ylk m_X12_gcd.2.2.2.2.1 33 = some (.lreturn) := by decide +kernel
noncomputable abbrev yb_X12_gcd (C : yC) : ySt → Option (Option Value × yM) := yrn m_X12_gcd C
theorem en_X12_gcd (n : Nat) (A : yM) (v0 : Int64) (v2 : Int64) : ycall (n + 1) 193 [.long v0, .long v2] A = yb_X12_gcd (ycall n) (6, [none, none, none, none, some (.long v0), none, some (.long v2), none, none, none], [], A) := (ybig_blk 5 _).trans (z_lload_n cd_X12_gcd_0 (j := 0) rfl rfl (p := 1) rfl (zgo rfl (z_lstore cd_X12_gcd_1 rfl (p := 3) rfl (zgo rfl (z_lload_n cd_X12_gcd_3 (j := 2) rfl rfl (p := 4) rfl (zgo rfl (z_lstore cd_X12_gcd_4 rfl (p := 6) rfl (zcut (p := 6) rfl rfl))))))))
theorem bk_X12_gcd_6 (C : yC) (A : yM) (v4 : Int64) (v6 : Int64) : yb_X12_gcd C (6, [none, none, none, none, some (.long v4), none, some (.long v6), none, none, none], [], A) = if (lg_cmp v6 (0 : Int64)) = 0 then (some (some (.long v4), A)) else (if v6 = 0 then none else (yb_X12_gcd C (6, [none, none, none, none, some (.long v6), none, some (.long (v4 - v4 / v6 * v6)), none, none, none], [], A))) := (ybig_blk 14 _).trans (z_lload cd_X12_gcd_6 rfl (p := 8) rfl (zgo rfl (z_lconst cd_X12_gcd_8 kl_0 (p := 9) rfl (zgo rfl (z_lcmp cd_X12_gcd_9 (p := 10) rfl (zgo rfl (z_if_eq cd_X12_gcd_10 (p := 31) rfl (p2 := 13) rfl (zgo rfl (z_lload cd_X12_gcd_31 rfl (p := 33) rfl (zgo rfl (z_lret cd_X12_gcd_33 rfl)))) (zgo rfl (z_lload cd_X12_gcd_13 rfl (p := 15) rfl (zgo rfl (z_lload cd_X12_gcd_15 rfl (p := 17) rfl (zgo rfl (z_lrem cd_X12_gcd_17 (p := 18) rfl (zgo rfl (z_lstore cd_X12_gcd_18 rfl (p := 20) rfl (zgo rfl (z_lload cd_X12_gcd_20 rfl (p := 22) rfl (zgo rfl (z_lstore cd_X12_gcd_22 rfl (p := 24) rfl (zgo rfl (z_lload cd_X12_gcd_24 rfl (p := 26) rfl (zgo rfl (z_lstore cd_X12_gcd_26 rfl (p := 28) rfl (zgo rfl (z_goto cd_X12_gcd_28 (p := 6) rfl (zcut (p := 6) rfl rfl))))))))))))))))))))))))))
theorem cd_X12_partOf_0 : ylk m_X12_partOf.2.2.2.2.1 0 = some (.lload_n 0) := by decide +kernel
theorem cd_X12_partOf_1 : ylk m_X12_partOf.2.2.2.2.1 1 = some (.lconst 0) := by decide +kernel
theorem cd_X12_partOf_2 : ylk m_X12_partOf.2.2.2.2.1 2 = some (.lcmp) := by decide +kernel
theorem cd_X12_partOf_3 : ylk m_X12_partOf.2.2.2.2.1 3 = some (.ifCond .ne 7) := by decide +kernel
theorem cd_X12_partOf_6 : ylk m_X12_partOf.2.2.2.2.1 6 = some (.iload 4) := by decide +kernel
theorem cd_X12_partOf_8 : ylk m_X12_partOf.2.2.2.2.1 8 = some (.i2l) := by decide +kernel
theorem cd_X12_partOf_9 : ylk m_X12_partOf.2.2.2.2.1 9 = some (.lreturn) := by decide +kernel
theorem cd_X12_partOf_10 : ylk m_X12_partOf.2.2.2.2.1 10 = some (.iload 4) := by decide +kernel
theorem cd_X12_partOf_12 : ylk m_X12_partOf.2.2.2.2.1 12 = some (.ifCond .ne 7) := by decide +kernel
theorem cd_X12_partOf_15 : ylk m_X12_partOf.2.2.2.2.1 15 = some (.lload_n 0) := by decide +kernel
theorem cd_X12_partOf_16 : ylk m_X12_partOf.2.2.2.2.1 16 = some (.goto 4) := by decide +kernel
theorem cd_X12_partOf_19 : ylk m_X12_partOf.2.2.2.2.1 19 = some (.lload_n 2) := by decide +kernel
theorem cd_X12_partOf_20 : ylk m_X12_partOf.2.2.2.2.1 20 = some (.lload_n 0) := by decide +kernel
theorem cd_X12_partOf_21 : ylk m_X12_partOf.2.2.2.2.1 21 = some (.lload_n 2) := by decide +kernel
theorem cd_X12_partOf_22 : ylk m_X12_partOf.2.2.2.2.1 22 = some (.invokestatic 191) := by decide +kernel
theorem cd_X12_partOf_25 : ylk m_X12_partOf.2.2.2.2.1 25 = some (.ldiv) := by decide +kernel
theorem cd_X12_partOf_26 : ylk m_X12_partOf.2.2.2.2.1 26 = some (.lreturn) := by decide +kernel
noncomputable abbrev yb_X12_partOf (C : yC) : ySt → Option (Option Value × yM) := yrn m_X12_partOf C
theorem en_X12_partOf (n : Nat) (A : yM) (v0 : Int64) (v2 : Int64) (v4 : Int32) : ycall (n + 1) 194 [.long v0, .long v2, .int v4] A = if (lg_cmp v0 (0 : Int64)) = 0 then (some (some (.long v4.toInt64), A)) else (if v4 = 0 then ((yl ((ycall n) 193 [.long v0, .long v2] A)).bind (fun z2 => if z2.1 = 0 then none else (some (some (.long (v0 / z2.1)), z2.2)))) else ((yl ((ycall n) 193 [.long v0, .long v2] A)).bind (fun z1 => if z1.1 = 0 then none else (some (some (.long (v2 / z1.1)), z1.2))))) := (ybig_blk 14 _).trans (z_lload_n cd_X12_partOf_0 (j := 0) rfl rfl (p := 1) rfl (zgo rfl (z_lconst cd_X12_partOf_1 kl_0 (p := 2) rfl (zgo rfl (z_lcmp cd_X12_partOf_2 (p := 3) rfl (zgo rfl (z_if_ne cd_X12_partOf_3 (p := 10) rfl (p2 := 6) rfl (zgo rfl (z_iload cd_X12_partOf_6 rfl (p := 8) rfl (zgo rfl (z_i2l cd_X12_partOf_8 (p := 9) rfl (zgo rfl (z_lret cd_X12_partOf_9 rfl)))))) (zgo rfl (z_iload cd_X12_partOf_10 rfl (p := 12) rfl (zgo rfl (z_if_ne cd_X12_partOf_12 (p := 19) rfl (p2 := 15) rfl (zgo rfl (z_lload_n cd_X12_partOf_15 (j := 0) rfl rfl (p := 16) rfl (zgo rfl (z_goto cd_X12_partOf_16 (p := 20) rfl (zgo rfl (z_lload_n cd_X12_partOf_20 (j := 0) rfl rfl (p := 21) rfl (zgo rfl (z_lload_n cd_X12_partOf_21 (j := 2) rfl rfl (p := 22) rfl (zgo rfl (z_cs2 cd_X12_partOf_22 (zs (key := 574) (by decide)) cl_X12_c574 rfl rfl rfl rfl (p := 25) rfl (fun _ => (zgo rfl (z_ldiv cd_X12_partOf_25 (p := 26) rfl (zgo rfl (z_lret cd_X12_partOf_26 rfl))))))))))))))) (zgo rfl (z_lload_n cd_X12_partOf_19 (j := 2) rfl rfl (p := 20) rfl (zgo rfl (z_lload_n cd_X12_partOf_20 (j := 0) rfl rfl (p := 21) rfl (zgo rfl (z_lload_n cd_X12_partOf_21 (j := 2) rfl rfl (p := 22) rfl (zgo rfl (z_cs2 cd_X12_partOf_22 (zs (key := 574) (by decide)) cl_X12_c574 rfl rfl rfl rfl (p := 25) rfl (fun _ => (zgo rfl (z_ldiv cd_X12_partOf_25 (p := 26) rfl (zgo rfl (z_lret cd_X12_partOf_26 rfl))))))))))))))))))))))))
theorem cd_X12_worth_0 : ylk m_X12_worth.2.2.2.2.1 0 = some (.aload_n 0) := by decide +kernel
theorem cd_X12_worth_1 : ylk m_X12_worth.2.2.2.2.1 1 = some (.iload_n 1) := by decide +kernel
theorem cd_X12_worth_2 : ylk m_X12_worth.2.2.2.2.1 2 = some (.invokevirtual 118) := by decide +kernel
theorem cd_X12_worth_5 : ylk m_X12_worth.2.2.2.2.1 5 = some (.ifCond .eq 27) := by decide +kernel
theorem cd_X12_worth_8 : ylk m_X12_worth.2.2.2.2.1 8 = some (.iload_n 2) := by decide +kernel
theorem cd_X12_worth_9 : ylk m_X12_worth.2.2.2.2.1 9 = some (.iconst 0) := by decide +kernel
theorem cd_X12_worth_10 : ylk m_X12_worth.2.2.2.2.1 10 = some (.iconst 1) := by decide +kernel
theorem cd_X12_worth_11 : ylk m_X12_worth.2.2.2.2.1 11 = some (.invokestatic 46) := by decide +kernel
theorem cd_X12_worth_14 : ylk m_X12_worth.2.2.2.2.1 14 = some (.ifCond .eq 18) := by decide +kernel
theorem cd_X12_worth_17 : ylk m_X12_worth.2.2.2.2.1 17 = some (.aload_n 0) := by decide +kernel
theorem cd_X12_worth_18 : ylk m_X12_worth.2.2.2.2.1 18 = some (.iload_n 1) := by decide +kernel
theorem cd_X12_worth_19 : ylk m_X12_worth.2.2.2.2.1 19 = some (.invokevirtual 185) := by decide +kernel
theorem cd_X12_worth_22 : ylk m_X12_worth.2.2.2.2.1 22 = some (.ldc2_w 183) := by decide +kernel
theorem cd_X12_worth_25 : ylk m_X12_worth.2.2.2.2.1 25 = some (.iload_n 2) := by decide +kernel
theorem cd_X12_worth_26 : ylk m_X12_worth.2.2.2.2.1 26 = some (.invokestatic 195) := by decide +kernel
theorem cd_X12_worth_29 : ylk m_X12_worth.2.2.2.2.1 29 = some (.goto 6) := by decide +kernel
theorem cd_X12_worth_32 : ylk m_X12_worth.2.2.2.2.1 32 = some (.ldc2_w 199) := by decide +kernel
theorem cd_X12_worth_35 : ylk m_X12_worth.2.2.2.2.1 35 = some (.lreturn) := by decide +kernel
noncomputable abbrev yb_X12_worth (C : yC) : ySt → Option (Option Value × yM) := yrn m_X12_worth C
theorem en_X12_worth (n : Nat) (A : yM) (v0 : Nat) (v1 : Int32) (v2 : Int32) : ycall (n + 1) 195 [.ref v0, .int v1, .int v2] A = (yi (yvt [(11, 145)] (ycall n) [.ref v0, .int v1] A)).bind (fun z1 => if z1.1 = 0 then (some (some (.long (1000000001 : Int64)), z1.2)) else ((yi ((ycall n) 138 [.int v2, .int (0 : Int32), .int (1 : Int32)] z1.2)).bind (fun z2 => if z2.1 = 0 then (some (some (.long (1000000001 : Int64)), z2.2)) else ((yl (yvt [(11, 192)] (ycall n) [.ref v0, .int v1] z2.2)).bind (fun z3 => (yl ((ycall n) 194 [.long z3.1, .long (4096 : Int64), .int v2] z3.2)).bind (fun z4 => some (some (.long z4.1), z4.2))))))) := (ybig_blk 18 _).trans (z_aload_n cd_X12_worth_0 (j := 0) rfl rfl (p := 1) rfl (zgo rfl (z_iload_n cd_X12_worth_1 (j := 1) rfl rfl (p := 2) rfl (zgo rfl (z_cv1 cd_X12_worth_2 (zv (key := 354) (by decide)) cl_X12_c354 rfl rfl rfl rfl (p := 5) rfl (fun _ => (zgo rfl (z_if_eq cd_X12_worth_5 (p := 32) rfl (p2 := 8) rfl (zgo rfl (z_ldc2_w cd_X12_worth_32 ct_X12_199 (p := 35) rfl (zgo rfl (z_lret cd_X12_worth_35 rfl)))) (zgo rfl (z_iload_n cd_X12_worth_8 (j := 2) rfl rfl (p := 9) rfl (zgo rfl (z_iconst cd_X12_worth_9 ki_0 (p := 10) rfl (zgo rfl (z_iconst cd_X12_worth_10 ki_1 (p := 11) rfl (zgo rfl (z_cs1 cd_X12_worth_11 (zs (key := 139) (by decide)) cl_X12_c139 rfl rfl rfl rfl (p := 14) rfl (fun _ => (zgo rfl (z_if_eq cd_X12_worth_14 (p := 32) rfl (p2 := 17) rfl (zgo rfl (z_ldc2_w cd_X12_worth_32 ct_X12_199 (p := 35) rfl (zgo rfl (z_lret cd_X12_worth_35 rfl)))) (zgo rfl (z_aload_n cd_X12_worth_17 (j := 0) rfl rfl (p := 18) rfl (zgo rfl (z_iload_n cd_X12_worth_18 (j := 1) rfl rfl (p := 19) rfl (zgo rfl (z_cv2 cd_X12_worth_19 (zv (key := 555) (by decide)) cl_X12_c555 rfl rfl rfl rfl (p := 22) rfl (fun _ => (zgo rfl (z_ldc2_w cd_X12_worth_22 ct_X12_183 (p := 25) rfl (zgo rfl (z_iload_n cd_X12_worth_25 (j := 2) rfl rfl (p := 26) rfl (zgo rfl (z_cs2 cd_X12_worth_26 (zs (key := 586) (by decide)) cl_X12_c586 rfl rfl rfl rfl (p := 29) rfl (fun _ => (zgo rfl (z_goto cd_X12_worth_29 (p := 35) rfl (zgo rfl (z_lret cd_X12_worth_35 rfl)))))))))))))))))))))))))))))))))))))
theorem cd_X12_dearest_0 : ylk m_X12_dearest.2.2.2.2.1 0 = some (.bipush (-4)) := by decide +kernel
theorem cd_X12_dearest_2 : ylk m_X12_dearest.2.2.2.2.1 2 = some (.istore_n 1) := by decide +kernel
theorem cd_X12_dearest_3 : ylk m_X12_dearest.2.2.2.2.1 3 = some (.iconst 0) := by decide +kernel
theorem cd_X12_dearest_4 : ylk m_X12_dearest.2.2.2.2.1 4 = some (.istore_n 2) := by decide +kernel
theorem cd_X12_dearest_5 : ylk m_X12_dearest.2.2.2.2.1 5 = some (.iload_n 2) := by decide +kernel
theorem cd_X12_dearest_6 : ylk m_X12_dearest.2.2.2.2.1 6 = some (.aload_n 0) := by decide +kernel
theorem cd_X12_dearest_7 : ylk m_X12_dearest.2.2.2.2.1 7 = some (.getfield 9) := by decide +kernel
theorem cd_X12_dearest_10 : ylk m_X12_dearest.2.2.2.2.1 10 = some (.iconst 1) := by decide +kernel
theorem cd_X12_dearest_11 : ylk m_X12_dearest.2.2.2.2.1 11 = some (.iaload) := by decide +kernel
theorem cd_X12_dearest_12 : ylk m_X12_dearest.2.2.2.2.1 12 = some (.if_icmp .ge 29) := by decide +kernel
theorem cd_X12_dearest_15 : ylk m_X12_dearest.2.2.2.2.1 15 = some (.iload_n 1) := by decide +kernel
theorem cd_X12_dearest_16 : ylk m_X12_dearest.2.2.2.2.1 16 = some (.ifCond .lt 17) := by decide +kernel
theorem cd_X12_dearest_19 : ylk m_X12_dearest.2.2.2.2.1 19 = some (.aload_n 0) := by decide +kernel
theorem cd_X12_dearest_20 : ylk m_X12_dearest.2.2.2.2.1 20 = some (.iload_n 2) := by decide +kernel
theorem cd_X12_dearest_21 : ylk m_X12_dearest.2.2.2.2.1 21 = some (.invokevirtual 185) := by decide +kernel
theorem cd_X12_dearest_24 : ylk m_X12_dearest.2.2.2.2.1 24 = some (.aload_n 0) := by decide +kernel
theorem cd_X12_dearest_25 : ylk m_X12_dearest.2.2.2.2.1 25 = some (.iload_n 1) := by decide +kernel
theorem cd_X12_dearest_26 : ylk m_X12_dearest.2.2.2.2.1 26 = some (.invokevirtual 185) := by decide +kernel
theorem cd_X12_dearest_29 : ylk m_X12_dearest.2.2.2.2.1 29 = some (.lcmp) := by decide +kernel
theorem cd_X12_dearest_30 : ylk m_X12_dearest.2.2.2.2.1 30 = some (.ifCond .le 5) := by decide +kernel
theorem cd_X12_dearest_33 : ylk m_X12_dearest.2.2.2.2.1 33 = some (.iload_n 2) := by decide +kernel
theorem cd_X12_dearest_34 : ylk m_X12_dearest.2.2.2.2.1 34 = some (.istore_n 1) := by decide +kernel
theorem cd_X12_dearest_35 : ylk m_X12_dearest.2.2.2.2.1 35 = some (.iinc 2 1) := by decide +kernel
theorem cd_X12_dearest_38 : ylk m_X12_dearest.2.2.2.2.1 38 = some (.goto (-33)) := by decide +kernel
theorem cd_X12_dearest_41 : ylk m_X12_dearest.2.2.2.2.1 41 = some (.iload_n 1) := by decide +kernel
theorem cd_X12_dearest_42 : ylk m_X12_dearest.2.2.2.2.1 42 = some (.ireturn) := by decide +kernel
noncomputable abbrev yb_X12_dearest (C : yC) : ySt → Option (Option Value × yM) := yrn m_X12_dearest C
theorem en_X12_dearest (n : Nat) (A : yM) (v0 : Nat) : ycall (n + 1) 196 [.ref v0] A = yb_X12_dearest (ycall n) (5, [some (.ref v0), some (.int (-4 : Int32)), some (.int (0 : Int32))], [], A) := (ybig_blk 5 _).trans (z_bipush cd_X12_dearest_0 kb_m4 (p := 2) rfl (zgo rfl (z_istore_n cd_X12_dearest_2 (j := 1) rfl rfl (p := 3) rfl (zgo rfl (z_iconst cd_X12_dearest_3 ki_0 (p := 4) rfl (zgo rfl (z_istore_n cd_X12_dearest_4 (j := 2) rfl rfl (p := 5) rfl (zcut (p := 5) rfl rfl))))))))
theorem bk_X12_dearest_5 (C : yC) (A : yM) (v0 : Nat) (v1 : Int32) (v2 : Int32) : yb_X12_dearest C (5, [some (.ref v0), some (.int v1), some (.int v2)], [], A) = ygR A v0 11 0 (fun a1 => yrd A a1 (1 : Int32) (fun x2 => if x2 ≤ v2 then (some (some (.int v1), A)) else (if v1 < 0 then (yb_X12_dearest C (5, [some (.ref v0), some (.int v2), some (.int (v2 + (1 : Int32)))], [], A)) else ((yl (yvt [(11, 192)] C [.ref v0, .int v2] A)).bind (fun z3 => (yl (yvt [(11, 192)] C [.ref v0, .int v1] z3.2)).bind (fun z4 => if (lg_cmp z3.1 z4.1) ≤ 0 then (yb_X12_dearest C (5, [some (.ref v0), some (.int v1), some (.int (v2 + (1 : Int32)))], [], z4.2)) else (yb_X12_dearest C (5, [some (.ref v0), some (.int v2), some (.int (v2 + (1 : Int32)))], [], z4.2)))))))) := (ybig_blk 21 _).trans (z_iload_n cd_X12_dearest_5 (j := 2) rfl rfl (p := 6) rfl (zgo rfl (z_aload_n cd_X12_dearest_6 (j := 0) rfl rfl (p := 7) rfl (zgo rfl (z_getR cd_X12_dearest_7 fd_X12_9 (p := 10) rfl (fun _ => (zgo rfl (z_iconst cd_X12_dearest_10 ki_1 (p := 11) rfl (zgo rfl (z_iaload cd_X12_dearest_11 (p := 12) rfl (fun _ => (zgo rfl (z_ic_ge cd_X12_dearest_12 (p := 41) rfl (p2 := 15) rfl (zgo rfl (z_iload_n cd_X12_dearest_41 (j := 1) rfl rfl (p := 42) rfl (zgo rfl (z_iret cd_X12_dearest_42 rfl)))) (zgo rfl (z_iload_n cd_X12_dearest_15 (j := 1) rfl rfl (p := 16) rfl (zgo rfl (z_if_lt cd_X12_dearest_16 (p := 33) rfl (p2 := 19) rfl (zgo rfl (z_iload_n cd_X12_dearest_33 (j := 2) rfl rfl (p := 34) rfl (zgo rfl (z_istore_n cd_X12_dearest_34 (j := 1) rfl rfl (p := 35) rfl (zgo rfl (z_iinc cd_X12_dearest_35 ki_1 rfl rfl (p := 38) rfl (zgo rfl (z_goto cd_X12_dearest_38 (p := 5) rfl (zcut (p := 5) rfl rfl))))))))) (zgo rfl (z_aload_n cd_X12_dearest_19 (j := 0) rfl rfl (p := 20) rfl (zgo rfl (z_iload_n cd_X12_dearest_20 (j := 2) rfl rfl (p := 21) rfl (zgo rfl (z_cv2 cd_X12_dearest_21 (zv (key := 555) (by decide)) cl_X12_c555 rfl rfl rfl rfl (p := 24) rfl (fun _ => (zgo rfl (z_aload_n cd_X12_dearest_24 (j := 0) rfl rfl (p := 25) rfl (zgo rfl (z_iload_n cd_X12_dearest_25 (j := 1) rfl rfl (p := 26) rfl (zgo rfl (z_cv2 cd_X12_dearest_26 (zv (key := 555) (by decide)) cl_X12_c555 rfl rfl rfl rfl (p := 29) rfl (fun _ => (zgo rfl (z_lcmp cd_X12_dearest_29 (p := 30) rfl (zgo rfl (z_if_le cd_X12_dearest_30 (p := 35) rfl (p2 := 33) rfl (zgo rfl (z_iinc cd_X12_dearest_35 ki_1 rfl rfl (p := 38) rfl (zgo rfl (z_goto cd_X12_dearest_38 (p := 5) rfl (zcut (p := 5) rfl rfl))))) (zgo rfl (z_iload_n cd_X12_dearest_33 (j := 2) rfl rfl (p := 34) rfl (zgo rfl (z_istore_n cd_X12_dearest_34 (j := 1) rfl rfl (p := 35) rfl (zgo rfl (z_iinc cd_X12_dearest_35 ki_1 rfl rfl (p := 38) rfl (zgo rfl (z_goto cd_X12_dearest_38 (p := 5) rfl (zcut (p := 5) rfl rfl))))))))))))))))))))))))))))))))))))))))))))
theorem cd_X12_deepest_0 : ylk m_X12_deepest.2.2.2.2.1 0 = some (.bipush (-4)) := by decide +kernel
theorem cd_X12_deepest_2 : ylk m_X12_deepest.2.2.2.2.1 2 = some (.istore_n 1) := by decide +kernel
theorem cd_X12_deepest_3 : ylk m_X12_deepest.2.2.2.2.1 3 = some (.iconst 0) := by decide +kernel
theorem cd_X12_deepest_4 : ylk m_X12_deepest.2.2.2.2.1 4 = some (.istore_n 2) := by decide +kernel
theorem cd_X12_deepest_5 : ylk m_X12_deepest.2.2.2.2.1 5 = some (.iload_n 2) := by decide +kernel
theorem cd_X12_deepest_6 : ylk m_X12_deepest.2.2.2.2.1 6 = some (.aload_n 0) := by decide +kernel
theorem cd_X12_deepest_7 : ylk m_X12_deepest.2.2.2.2.1 7 = some (.getfield 9) := by decide +kernel
theorem cd_X12_deepest_10 : ylk m_X12_deepest.2.2.2.2.1 10 = some (.iconst 1) := by decide +kernel
theorem cd_X12_deepest_11 : ylk m_X12_deepest.2.2.2.2.1 11 = some (.iaload) := by decide +kernel
theorem cd_X12_deepest_12 : ylk m_X12_deepest.2.2.2.2.1 12 = some (.if_icmp .ge 28) := by decide +kernel
theorem cd_X12_deepest_15 : ylk m_X12_deepest.2.2.2.2.1 15 = some (.iload_n 1) := by decide +kernel
theorem cd_X12_deepest_16 : ylk m_X12_deepest.2.2.2.2.1 16 = some (.ifCond .lt 16) := by decide +kernel
theorem cd_X12_deepest_19 : ylk m_X12_deepest.2.2.2.2.1 19 = some (.aload_n 0) := by decide +kernel
theorem cd_X12_deepest_20 : ylk m_X12_deepest.2.2.2.2.1 20 = some (.iload_n 2) := by decide +kernel
theorem cd_X12_deepest_21 : ylk m_X12_deepest.2.2.2.2.1 21 = some (.invokevirtual 177) := by decide +kernel
theorem cd_X12_deepest_24 : ylk m_X12_deepest.2.2.2.2.1 24 = some (.aload_n 0) := by decide +kernel
theorem cd_X12_deepest_25 : ylk m_X12_deepest.2.2.2.2.1 25 = some (.iload_n 1) := by decide +kernel
theorem cd_X12_deepest_26 : ylk m_X12_deepest.2.2.2.2.1 26 = some (.invokevirtual 177) := by decide +kernel
theorem cd_X12_deepest_29 : ylk m_X12_deepest.2.2.2.2.1 29 = some (.if_icmp .le 5) := by decide +kernel
theorem cd_X12_deepest_32 : ylk m_X12_deepest.2.2.2.2.1 32 = some (.iload_n 2) := by decide +kernel
theorem cd_X12_deepest_33 : ylk m_X12_deepest.2.2.2.2.1 33 = some (.istore_n 1) := by decide +kernel
theorem cd_X12_deepest_34 : ylk m_X12_deepest.2.2.2.2.1 34 = some (.iinc 2 1) := by decide +kernel
theorem cd_X12_deepest_37 : ylk m_X12_deepest.2.2.2.2.1 37 = some (.goto (-32)) := by decide +kernel
theorem cd_X12_deepest_40 : ylk m_X12_deepest.2.2.2.2.1 40 = some (.iload_n 1) := by decide +kernel
theorem cd_X12_deepest_41 : ylk m_X12_deepest.2.2.2.2.1 41 = some (.ireturn) := by decide +kernel
noncomputable abbrev yb_X12_deepest (C : yC) : ySt → Option (Option Value × yM) := yrn m_X12_deepest C
theorem en_X12_deepest (n : Nat) (A : yM) (v0 : Nat) : ycall (n + 1) 197 [.ref v0] A = yb_X12_deepest (ycall n) (5, [some (.ref v0), some (.int (-4 : Int32)), some (.int (0 : Int32))], [], A) := (ybig_blk 5 _).trans (z_bipush cd_X12_deepest_0 kb_m4 (p := 2) rfl (zgo rfl (z_istore_n cd_X12_deepest_2 (j := 1) rfl rfl (p := 3) rfl (zgo rfl (z_iconst cd_X12_deepest_3 ki_0 (p := 4) rfl (zgo rfl (z_istore_n cd_X12_deepest_4 (j := 2) rfl rfl (p := 5) rfl (zcut (p := 5) rfl rfl))))))))
theorem bk_X12_deepest_5 (C : yC) (A : yM) (v0 : Nat) (v1 : Int32) (v2 : Int32) : yb_X12_deepest C (5, [some (.ref v0), some (.int v1), some (.int v2)], [], A) = ygR A v0 11 0 (fun a1 => yrd A a1 (1 : Int32) (fun x2 => if x2 ≤ v2 then (some (some (.int v1), A)) else (if v1 < 0 then (yb_X12_deepest C (5, [some (.ref v0), some (.int v2), some (.int (v2 + (1 : Int32)))], [], A)) else ((yi (yvt [(11, 190)] C [.ref v0, .int v2] A)).bind (fun z3 => (yi (yvt [(11, 190)] C [.ref v0, .int v1] z3.2)).bind (fun z4 => if z3.1 ≤ z4.1 then (yb_X12_deepest C (5, [some (.ref v0), some (.int v1), some (.int (v2 + (1 : Int32)))], [], z4.2)) else (yb_X12_deepest C (5, [some (.ref v0), some (.int v2), some (.int (v2 + (1 : Int32)))], [], z4.2)))))))) := (ybig_blk 20 _).trans (z_iload_n cd_X12_deepest_5 (j := 2) rfl rfl (p := 6) rfl (zgo rfl (z_aload_n cd_X12_deepest_6 (j := 0) rfl rfl (p := 7) rfl (zgo rfl (z_getR cd_X12_deepest_7 fd_X12_9 (p := 10) rfl (fun _ => (zgo rfl (z_iconst cd_X12_deepest_10 ki_1 (p := 11) rfl (zgo rfl (z_iaload cd_X12_deepest_11 (p := 12) rfl (fun _ => (zgo rfl (z_ic_ge cd_X12_deepest_12 (p := 40) rfl (p2 := 15) rfl (zgo rfl (z_iload_n cd_X12_deepest_40 (j := 1) rfl rfl (p := 41) rfl (zgo rfl (z_iret cd_X12_deepest_41 rfl)))) (zgo rfl (z_iload_n cd_X12_deepest_15 (j := 1) rfl rfl (p := 16) rfl (zgo rfl (z_if_lt cd_X12_deepest_16 (p := 32) rfl (p2 := 19) rfl (zgo rfl (z_iload_n cd_X12_deepest_32 (j := 2) rfl rfl (p := 33) rfl (zgo rfl (z_istore_n cd_X12_deepest_33 (j := 1) rfl rfl (p := 34) rfl (zgo rfl (z_iinc cd_X12_deepest_34 ki_1 rfl rfl (p := 37) rfl (zgo rfl (z_goto cd_X12_deepest_37 (p := 5) rfl (zcut (p := 5) rfl rfl))))))))) (zgo rfl (z_aload_n cd_X12_deepest_19 (j := 0) rfl rfl (p := 20) rfl (zgo rfl (z_iload_n cd_X12_deepest_20 (j := 2) rfl rfl (p := 21) rfl (zgo rfl (z_cv1 cd_X12_deepest_21 (zv (key := 531) (by decide)) cl_X12_c531 rfl rfl rfl rfl (p := 24) rfl (fun _ => (zgo rfl (z_aload_n cd_X12_deepest_24 (j := 0) rfl rfl (p := 25) rfl (zgo rfl (z_iload_n cd_X12_deepest_25 (j := 1) rfl rfl (p := 26) rfl (zgo rfl (z_cv1 cd_X12_deepest_26 (zv (key := 531) (by decide)) cl_X12_c531 rfl rfl rfl rfl (p := 29) rfl (fun _ => (zgo rfl (z_ic_le cd_X12_deepest_29 (p := 34) rfl (p2 := 32) rfl (zgo rfl (z_iinc cd_X12_deepest_34 ki_1 rfl rfl (p := 37) rfl (zgo rfl (z_goto cd_X12_deepest_37 (p := 5) rfl (zcut (p := 5) rfl rfl))))) (zgo rfl (z_iload_n cd_X12_deepest_32 (j := 2) rfl rfl (p := 33) rfl (zgo rfl (z_istore_n cd_X12_deepest_33 (j := 1) rfl rfl (p := 34) rfl (zgo rfl (z_iinc cd_X12_deepest_34 ki_1 rfl rfl (p := 37) rfl (zgo rfl (z_goto cd_X12_deepest_37 (p := 5) rfl (zcut (p := 5) rfl rfl))))))))))))))))))))))))))))))))))))))))))
