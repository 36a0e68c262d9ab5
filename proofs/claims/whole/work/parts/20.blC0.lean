theorem cd_X11_college_0 : ylk m_X11_college.2.2.2.2.1 0 = some (.aload_n 0) := by decide +kernel
theorem cd_X11_college_1 : ylk m_X11_college.2.2.2.2.1 1 = some (.iload_n 1) := by decide +kernel
theorem cd_X11_college_2 : ylk m_X11_college.2.2.2.2.1 2 = some (.invokevirtual 43) := by decide +kernel
theorem cd_X11_college_5 : ylk m_X11_college.2.2.2.2.1 5 = some (.istore_n 2) := by decide +kernel
theorem cd_X11_college_6 : ylk m_X11_college.2.2.2.2.1 6 = some (.iload_n 2) := by decide +kernel
theorem cd_X11_college_7 : ylk m_X11_college.2.2.2.2.1 7 = some (.ifCond .eq 5) := by decide +kernel
theorem cd_X11_college_10 : ylk m_X11_college.2.2.2.2.1 10 = some (.iload_n 2) := by decide +kernel
theorem cd_X11_college_11 : ylk m_X11_college.2.2.2.2.1 11 = some (.ireturn) := by decide +kernel
theorem cd_X11_college_12 : ylk m_X11_college.2.2.2.2.1 12 = some (.aload_n 0) := by decide +kernel
theorem cd_X11_college_13 : ylk m_X11_college.2.2.2.2.1 13 = some (.getfield 28) := by decide +kernel
theorem cd_X11_college_16 : ylk m_X11_college.2.2.2.2.1 16 = some (.iload_n 1) := by decide +kernel
theorem cd_X11_college_17 : ylk m_X11_college.2.2.2.2.1 17 = some (.aaload) := by decide +kernel
theorem cd_X11_college_18 : ylk m_X11_college.2.2.2.2.1 18 = some (.astore_n 3) := by decide +kernel
theorem cd_X11_college_19 : ylk m_X11_college.2.2.2.2.1 19 = some (.aload_n 3) := by decide +kernel
theorem cd_X11_college_20 : ylk m_X11_college.2.2.2.2.1 20 = some (.getfield 47) := by decide +kernel
theorem cd_X11_college_23 : ylk m_X11_college.2.2.2.2.1 23 = some (.ifCond .eq 6) := by decide +kernel
theorem cd_X11_college_26 : ylk m_X11_college.2.2.2.2.1 26 = some (.bipush (-12)) := by decide +kernel
theorem cd_X11_college_28 : ylk m_X11_college.2.2.2.2.1 28 = some (.ireturn) := by decide +kernel
theorem cd_X11_college_29 : ylk m_X11_college.2.2.2.2.1 29 = some (.aload_n 3) := by decide +kernel
theorem cd_X11_college_30 : ylk m_X11_college.2.2.2.2.1 30 = some (.invokestatic 51) := by decide +kernel
theorem cd_X11_college_33 : ylk m_X11_college.2.2.2.2.1 33 = some (.istore 4) := by decide +kernel
theorem cd_X11_college_35 : ylk m_X11_college.2.2.2.2.1 35 = some (.iload 4) := by decide +kernel
theorem cd_X11_college_37 : ylk m_X11_college.2.2.2.2.1 37 = some (.ifCond .lt 10) := by decide +kernel
theorem cd_X11_college_40 : ylk m_X11_college.2.2.2.2.1 40 = some (.sipush (-1000)) := by decide +kernel
theorem cd_X11_college_43 : ylk m_X11_college.2.2.2.2.1 43 = some (.iload 4) := by decide +kernel
theorem cd_X11_college_45 : ylk m_X11_college.2.2.2.2.1 45 = some (.isub) := by decide +kernel
theorem cd_X11_college_46 : ylk m_X11_college.2.2.2.2.1 46 = some (.ireturn) := by decide +kernel
theorem cd_X11_college_47 : ylk m_X11_college.2.2.2.2.1 47 = some (.aload_n 0) := by decide +kernel
theorem cd_X11_college_48 : ylk m_X11_college.2.2.2.2.1 48 = some (.getfield 16) := by decide +kernel
theorem cd_X11_college_51 : ylk m_X11_college.2.2.2.2.1 51 = some (.aload_n 0) := by decide +kernel
theorem cd_X11_college_52 : ylk m_X11_college.2.2.2.2.1 52 = some (.getfield 12) := by decide +kernel
theorem cd_X11_college_55 : ylk m_X11_college.2.2.2.2.1 55 = some (.invokevirtual 57) := by decide +kernel
theorem cd_X11_college_58 : ylk m_X11_college.2.2.2.2.1 58 = some (.aload_n 3) := by decide +kernel
theorem cd_X11_college_59 : ylk m_X11_college.2.2.2.2.1 59 = some (.aload_n 0) := by decide +kernel
theorem cd_X11_college_60 : ylk m_X11_college.2.2.2.2.1 60 = some (.getfield 16) := by decide +kernel
theorem cd_X11_college_63 : ylk m_X11_college.2.2.2.2.1 63 = some (.invokestatic 61) := by decide +kernel
theorem cd_X11_college_66 : ylk m_X11_college.2.2.2.2.1 66 = some (.istore 4) := by decide +kernel
theorem cd_X11_college_68 : ylk m_X11_college.2.2.2.2.1 68 = some (.iload 4) := by decide +kernel
theorem cd_X11_college_70 : ylk m_X11_college.2.2.2.2.1 70 = some (.ifCond .lt 10) := by decide +kernel
theorem cd_X11_college_73 : ylk m_X11_college.2.2.2.2.1 73 = some (.sipush (-2000)) := by decide +kernel
theorem cd_X11_college_76 : ylk m_X11_college.2.2.2.2.1 76 = some (.iload 4) := by decide +kernel
theorem cd_X11_college_78 : ylk m_X11_college.2.2.2.2.1 78 = some (.isub) := by decide +kernel
theorem cd_X11_college_79 : ylk m_X11_college.2.2.2.2.1 79 = some (.ireturn) := by decide +kernel
theorem cd_X11_college_80 : ylk m_X11_college.2.2.2.2.1 80 = some (.aload_n 0) := by decide +kernel
theorem cd_X11_college_81 : ylk m_X11_college.2.2.2.2.1 81 = some (.getfield 12) := by decide +kernel
theorem cd_X11_college_84 : ylk m_X11_college.2.2.2.2.1 84 = some (.aload_n 0) := by decide +kernel
theorem cd_X11_college_85 : ylk m_X11_college.2.2.2.2.1 85 = some (.getfield 16) := by decide +kernel
theorem cd_X11_college_88 : ylk m_X11_college.2.2.2.2.1 88 = some (.invokevirtual 57) := by decide +kernel
theorem cd_X11_college_91 : ylk m_X11_college.2.2.2.2.1 91 = some (.aload_n 3) := by decide +kernel
theorem cd_X11_college_92 : ylk m_X11_college.2.2.2.2.1 92 = some (.invokestatic 65) := by decide +kernel
theorem cd_X11_college_95 : ylk m_X11_college.2.2.2.2.1 95 = some (.ireturn) := by decide +kernel
noncomputable abbrev yb_X11_college (C : yC) : ySt → Option (Option Value × yM) := yrn m_X11_college C
theorem en_X11_college (n : Nat) (A : yM) (v0 : Nat) (v1 : Int32) : ycall (n + 1) 72 [.ref v0, .int v1] A = (yi (yvt [(10, 135)] (ycall n) [.ref v0, .int v1] A)).bind (fun z1 => if z1.1 = 0 then (ygR z1.2 v0 10 4 (fun a2 => yrR z1.2 a2 v1 (fun a3 => ygI z1.2 a3 7 3 (fun x4 => if x4 = 0 then ((yi ((ycall n) 64 [.ref a3] z1.2)).bind (fun z5 => if z5.1 < 0 then (ygR z5.2 v0 10 1 (fun a6 => ygR z5.2 v0 10 0 (fun a7 => (yv (yvt [(0, 0)] (ycall n) [.ref a6, .ref a7] z5.2)).bind (fun A8 => ygR A8 v0 10 1 (fun a9 => (yi ((ycall n) 66 [.ref a3, .ref a9] A8)).bind (fun z10 => if z10.1 < 0 then (ygR z10.2 v0 10 0 (fun a11 => ygR z10.2 v0 10 1 (fun a12 => (yv (yvt [(0, 0)] (ycall n) [.ref a11, .ref a12] z10.2)).bind (fun A13 => (yi ((ycall n) 65 [.ref a3] A13)).bind (fun z14 => some (some (.int z14.1), z14.2)))))) else (some (some (.int ((-2000 : Int32) - z10.1)), z10.2)))))))) else (some (some (.int ((-1000 : Int32) - z5.1)), z5.2)))) else (some (some (.int (-12 : Int32)), z1.2)))))) else (some (some (.int z1.1), z1.2))) := (ybig_blk 40 _).trans (z_aload_n cd_X11_college_0 (j := 0) rfl rfl (p := 1) rfl (zgo rfl (z_iload_n cd_X11_college_1 (j := 1) rfl rfl (p := 2) rfl (zgo rfl (z_cv1 cd_X11_college_2 (zv (key := 129) (by decide)) cl_X11_c129 rfl rfl rfl rfl (p := 5) rfl (fun _ => (zgo rfl (z_istore_n cd_X11_college_5 (j := 2) rfl rfl (p := 6) rfl (zgo rfl (z_iload_n cd_X11_college_6 (j := 2) rfl rfl (p := 7) rfl (zgo rfl (z_if_eq cd_X11_college_7 (p := 12) rfl (p2 := 10) rfl (zgo rfl (z_aload_n cd_X11_college_12 (j := 0) rfl rfl (p := 13) rfl (zgo rfl (z_getR cd_X11_college_13 fd_X11_28 (p := 16) rfl (fun _ => (zgo rfl (z_iload_n cd_X11_college_16 (j := 1) rfl rfl (p := 17) rfl (zgo rfl (z_aaload cd_X11_college_17 (p := 18) rfl (fun _ => (zgo rfl (z_astore_n cd_X11_college_18 (j := 3) rfl rfl (p := 19) rfl (zgo rfl (z_aload_n cd_X11_college_19 (j := 3) rfl rfl (p := 20) rfl (zgo rfl (z_getI cd_X11_college_20 fd_X11_47 (p := 23) rfl (fun _ => (zgo rfl (z_if_eq cd_X11_college_23 (p := 29) rfl (p2 := 26) rfl (zgo rfl (z_aload_n cd_X11_college_29 (j := 3) rfl rfl (p := 30) rfl (zgo rfl (z_cs1 cd_X11_college_30 (zs (key := 154) (by decide)) cl_X11_c154 rfl rfl rfl rfl (p := 33) rfl (fun _ => (zgo rfl (z_istore cd_X11_college_33 rfl (p := 35) rfl (zgo rfl (z_iload cd_X11_college_35 rfl (p := 37) rfl (zgo rfl (z_if_lt cd_X11_college_37 (p := 47) rfl (p2 := 40) rfl (zgo rfl (z_aload_n cd_X11_college_47 (j := 0) rfl rfl (p := 48) rfl (zgo rfl (z_getR cd_X11_college_48 fd_X11_16 (p := 51) rfl (fun _ => (zgo rfl (z_aload_n cd_X11_college_51 (j := 0) rfl rfl (p := 52) rfl (zgo rfl (z_getR cd_X11_college_52 fd_X11_12 (p := 55) rfl (fun _ => (zgo rfl (z_cv0 cd_X11_college_55 (zv (key := 171) (by decide)) cl_X11_c171 rfl rfl rfl rfl (p := 58) rfl (fun _ => (zgo rfl (z_aload_n cd_X11_college_58 (j := 3) rfl rfl (p := 59) rfl (zgo rfl (z_aload_n cd_X11_college_59 (j := 0) rfl rfl (p := 60) rfl (zgo rfl (z_getR cd_X11_college_60 fd_X11_16 (p := 63) rfl (fun _ => (zgo rfl (z_cs1 cd_X11_college_63 (zs (key := 184) (by decide)) cl_X11_c184 rfl rfl rfl rfl (p := 66) rfl (fun _ => (zgo rfl (z_istore cd_X11_college_66 rfl (p := 68) rfl (zgo rfl (z_iload cd_X11_college_68 rfl (p := 70) rfl (zgo rfl (z_if_lt cd_X11_college_70 (p := 80) rfl (p2 := 73) rfl (zgo rfl (z_aload_n cd_X11_college_80 (j := 0) rfl rfl (p := 81) rfl (zgo rfl (z_getR cd_X11_college_81 fd_X11_12 (p := 84) rfl (fun _ => (zgo rfl (z_aload_n cd_X11_college_84 (j := 0) rfl rfl (p := 85) rfl (zgo rfl (z_getR cd_X11_college_85 fd_X11_16 (p := 88) rfl (fun _ => (zgo rfl (z_cv0 cd_X11_college_88 (zv (key := 171) (by decide)) cl_X11_c171 rfl rfl rfl rfl (p := 91) rfl (fun _ => (zgo rfl (z_aload_n cd_X11_college_91 (j := 3) rfl rfl (p := 92) rfl (zgo rfl (z_cs1 cd_X11_college_92 (zs (key := 196) (by decide)) cl_X11_c196 rfl rfl rfl rfl (p := 95) rfl (fun _ => (zgo rfl (z_iret cd_X11_college_95 rfl)))))))))))))))))))) (zgo rfl (z_sipush cd_X11_college_73 ks_m2000 (p := 76) rfl (zgo rfl (z_iload cd_X11_college_76 rfl (p := 78) rfl (zgo rfl (z_isub cd_X11_college_78 (p := 79) rfl (zgo rfl (z_iret cd_X11_college_79 rfl))))))))))))))))))))))))))))))))))))) (zgo rfl (z_sipush cd_X11_college_40 ks_m1000 (p := 43) rfl (zgo rfl (z_iload cd_X11_college_43 rfl (p := 45) rfl (zgo rfl (z_isub cd_X11_college_45 (p := 46) rfl (zgo rfl (z_iret cd_X11_college_46 rfl))))))))))))))))))) (zgo rfl (z_bipush cd_X11_college_26 kb_m12 (p := 28) rfl (zgo rfl (z_iret cd_X11_college_28 rfl))))))))))))))))))))))) (zgo rfl (z_iload_n cd_X11_college_10 (j := 2) rfl rfl (p := 11) rfl (zgo rfl (z_iret cd_X11_college_11 rfl))))))))))))))))
theorem cd_X11_student_0 : ylk m_X11_student.2.2.2.2.1 0 = some (.aload_n 0) := by decide +kernel
theorem cd_X11_student_1 : ylk m_X11_student.2.2.2.2.1 1 = some (.getfield 12) := by decide +kernel
theorem cd_X11_student_4 : ylk m_X11_student.2.2.2.2.1 4 = some (.iload_n 1) := by decide +kernel
theorem cd_X11_student_5 : ylk m_X11_student.2.2.2.2.1 5 = some (.invokevirtual 68) := by decide +kernel
theorem cd_X11_student_8 : ylk m_X11_student.2.2.2.2.1 8 = some (.ifCond .ne 5) := by decide +kernel
theorem cd_X11_student_11 : ylk m_X11_student.2.2.2.2.1 11 = some (.iconst (-1)) := by decide +kernel
theorem cd_X11_student_12 : ylk m_X11_student.2.2.2.2.1 12 = some (.ireturn) := by decide +kernel
theorem cd_X11_student_13 : ylk m_X11_student.2.2.2.2.1 13 = some (.iload_n 2) := by decide +kernel
theorem cd_X11_student_14 : ylk m_X11_student.2.2.2.2.1 14 = some (.tableswitch 102 0 5 #[38, 48, 58, 75, 84, 93]) := by decide +kernel
theorem cd_X11_student_52 : ylk m_X11_student.2.2.2.2.1 52 = some (.aload_n 0) := by decide +kernel
theorem cd_X11_student_53 : ylk m_X11_student.2.2.2.2.1 53 = some (.getfield 12) := by decide +kernel
theorem cd_X11_student_56 : ylk m_X11_student.2.2.2.2.1 56 = some (.getfield 72) := by decide +kernel
theorem cd_X11_student_59 : ylk m_X11_student.2.2.2.2.1 59 = some (.iload_n 1) := by decide +kernel
theorem cd_X11_student_60 : ylk m_X11_student.2.2.2.2.1 60 = some (.iaload) := by decide +kernel
theorem cd_X11_student_61 : ylk m_X11_student.2.2.2.2.1 61 = some (.ireturn) := by decide +kernel
theorem cd_X11_student_62 : ylk m_X11_student.2.2.2.2.1 62 = some (.aload_n 0) := by decide +kernel
theorem cd_X11_student_63 : ylk m_X11_student.2.2.2.2.1 63 = some (.getfield 12) := by decide +kernel
theorem cd_X11_student_66 : ylk m_X11_student.2.2.2.2.1 66 = some (.getfield 75) := by decide +kernel
theorem cd_X11_student_69 : ylk m_X11_student.2.2.2.2.1 69 = some (.iload_n 1) := by decide +kernel
theorem cd_X11_student_70 : ylk m_X11_student.2.2.2.2.1 70 = some (.iaload) := by decide +kernel
theorem cd_X11_student_71 : ylk m_X11_student.2.2.2.2.1 71 = some (.ireturn) := by decide +kernel
theorem cd_X11_student_72 : ylk m_X11_student.2.2.2.2.1 72 = some (.aload_n 0) := by decide +kernel
theorem cd_X11_student_73 : ylk m_X11_student.2.2.2.2.1 73 = some (.getfield 12) := by decide +kernel
theorem cd_X11_student_76 : ylk m_X11_student.2.2.2.2.1 76 = some (.iload_n 1) := by decide +kernel
theorem cd_X11_student_77 : ylk m_X11_student.2.2.2.2.1 77 = some (.invokevirtual 78) := by decide +kernel
theorem cd_X11_student_80 : ylk m_X11_student.2.2.2.2.1 80 = some (.ifCond .eq 7) := by decide +kernel
theorem cd_X11_student_83 : ylk m_X11_student.2.2.2.2.1 83 = some (.iconst 1) := by decide +kernel
theorem cd_X11_student_84 : ylk m_X11_student.2.2.2.2.1 84 = some (.goto 4) := by decide +kernel
theorem cd_X11_student_87 : ylk m_X11_student.2.2.2.2.1 87 = some (.iconst 0) := by decide +kernel
theorem cd_X11_student_88 : ylk m_X11_student.2.2.2.2.1 88 = some (.ireturn) := by decide +kernel
theorem cd_X11_student_89 : ylk m_X11_student.2.2.2.2.1 89 = some (.aload_n 0) := by decide +kernel
theorem cd_X11_student_90 : ylk m_X11_student.2.2.2.2.1 90 = some (.getfield 12) := by decide +kernel
theorem cd_X11_student_93 : ylk m_X11_student.2.2.2.2.1 93 = some (.iload_n 1) := by decide +kernel
theorem cd_X11_student_94 : ylk m_X11_student.2.2.2.2.1 94 = some (.invokevirtual 81) := by decide +kernel
theorem cd_X11_student_97 : ylk m_X11_student.2.2.2.2.1 97 = some (.ireturn) := by decide +kernel
theorem cd_X11_student_98 : ylk m_X11_student.2.2.2.2.1 98 = some (.aload_n 0) := by decide +kernel
theorem cd_X11_student_99 : ylk m_X11_student.2.2.2.2.1 99 = some (.getfield 12) := by decide +kernel
theorem cd_X11_student_102 : ylk m_X11_student.2.2.2.2.1 102 = some (.iload_n 1) := by decide +kernel
theorem cd_X11_student_103 : ylk m_X11_student.2.2.2.2.1 103 = some (.invokevirtual 84) := by decide +kernel
theorem cd_X11_student_106 : ylk m_X11_student.2.2.2.2.1 106 = some (.ireturn) := by decide +kernel
theorem cd_X11_student_107 : ylk m_X11_student.2.2.2.2.1 107 = some (.aload_n 0) := by decide +kernel
theorem cd_X11_student_108 : ylk m_X11_student.2.2.2.2.1 108 = some (.getfield 12) := by decide +kernel
theorem cd_X11_student_111 : ylk m_X11_student.2.2.2.2.1 111 = some (.iload_n 1) := by decide +kernel
theorem cd_X11_student_112 : ylk m_X11_student.2.2.2.2.1 112 = some (.invokevirtual 87) := by decide +kernel
theorem cd_X11_student_115 : ylk m_X11_student.2.2.2.2.1 115 = some (.ireturn) := by decide +kernel
theorem cd_X11_student_116 : ylk m_X11_student.2.2.2.2.1 116 = some (.iconst (-1)) := by decide +kernel
theorem cd_X11_student_117 : ylk m_X11_student.2.2.2.2.1 117 = some (.ireturn) := by decide +kernel
noncomputable abbrev yb_X11_student (C : yC) : ySt → Option (Option Value × yM) := yrn m_X11_student C
theorem en_X11_student (n : Nat) (A : yM) (v0 : Nat) (v1 : Int32) (v2 : Int32) : ycall (n + 1) 73 [.ref v0, .int v1, .int v2] A = ygR A v0 10 0 (fun a1 => (yi (yvt [(0, 1)] (ycall n) [.ref a1, .int v1] A)).bind (fun z2 => if z2.1 = 0 then (some (some (.int (-1 : Int32)), z2.2)) else (if v2 = (0 : Int32) then (ygR z2.2 v0 10 0 (fun a14 => ygR z2.2 a14 0 2 (fun a15 => yrd z2.2 a15 v1 (fun x16 => some (some (.int x16), z2.2))))) else (if v2 = (1 : Int32) then (ygR z2.2 v0 10 0 (fun a11 => ygR z2.2 a11 0 3 (fun a12 => yrd z2.2 a12 v1 (fun x13 => some (some (.int x13), z2.2))))) else (if v2 = (2 : Int32) then (ygR z2.2 v0 10 0 (fun a9 => (yi (yvt [(0, 3)] (ycall n) [.ref a9, .int v1] z2.2)).bind (fun z10 => if z10.1 = 0 then (some (some (.int (0 : Int32)), z10.2)) else (some (some (.int (1 : Int32)), z10.2))))) else (if v2 = (3 : Int32) then (ygR z2.2 v0 10 0 (fun a7 => (yi (yvt [(0, 16)] (ycall n) [.ref a7, .int v1] z2.2)).bind (fun z8 => some (some (.int z8.1), z8.2)))) else (if v2 = (4 : Int32) then (ygR z2.2 v0 10 0 (fun a5 => (yi (yvt [(0, 21)] (ycall n) [.ref a5, .int v1] z2.2)).bind (fun z6 => some (some (.int z6.1), z6.2)))) else (if v2 = (5 : Int32) then (ygR z2.2 v0 10 0 (fun a3 => (yi (yvt [(0, 23)] (ycall n) [.ref a3, .int v1] z2.2)).bind (fun z4 => some (some (.int z4.1), z4.2)))) else (some (some (.int (-1 : Int32)), z2.2)))))))))) := (ybig_blk 16 _).trans (z_aload_n cd_X11_student_0 (j := 0) rfl rfl (p := 1) rfl (zgo rfl (z_getR cd_X11_student_1 fd_X11_12 (p := 4) rfl (fun _ => (zgo rfl (z_iload_n cd_X11_student_4 (j := 1) rfl rfl (p := 5) rfl (zgo rfl (z_cv1 cd_X11_student_5 (zv (key := 204) (by decide)) cl_X11_c204 rfl rfl rfl rfl (p := 8) rfl (fun _ => (zgo rfl (z_if_ne cd_X11_student_8 (p := 13) rfl (p2 := 11) rfl (zgo rfl (z_iconst cd_X11_student_11 ki_m1 (p := 12) rfl (zgo rfl (z_iret cd_X11_student_12 rfl)))) (zgo rfl (z_iload_n cd_X11_student_13 (j := 2) rfl rfl (p := 14) rfl (zgo rfl (z_sw cd_X11_student_14 (p := 116) rfl (ps := [(0, 52), (1, 62), (2, 72), (3, 89), (4, 98), (5, 107)]) rfl (z_swc ki_0 (zgo rfl (z_aload_n cd_X11_student_52 (j := 0) rfl rfl (p := 53) rfl (zgo rfl (z_getR cd_X11_student_53 fd_X11_12 (p := 56) rfl (fun _ => (zgo rfl (z_getR cd_X11_student_56 fd_X11_72 (p := 59) rfl (fun _ => (zgo rfl (z_iload_n cd_X11_student_59 (j := 1) rfl rfl (p := 60) rfl (zgo rfl (z_iaload cd_X11_student_60 (p := 61) rfl (fun _ => (zgo rfl (z_iret cd_X11_student_61 rfl))))))))))))))) (z_swc ki_1 (zgo rfl (z_aload_n cd_X11_student_62 (j := 0) rfl rfl (p := 63) rfl (zgo rfl (z_getR cd_X11_student_63 fd_X11_12 (p := 66) rfl (fun _ => (zgo rfl (z_getR cd_X11_student_66 fd_X11_75 (p := 69) rfl (fun _ => (zgo rfl (z_iload_n cd_X11_student_69 (j := 1) rfl rfl (p := 70) rfl (zgo rfl (z_iaload cd_X11_student_70 (p := 71) rfl (fun _ => (zgo rfl (z_iret cd_X11_student_71 rfl))))))))))))))) (z_swc ki_2 (zgo rfl (z_aload_n cd_X11_student_72 (j := 0) rfl rfl (p := 73) rfl (zgo rfl (z_getR cd_X11_student_73 fd_X11_12 (p := 76) rfl (fun _ => (zgo rfl (z_iload_n cd_X11_student_76 (j := 1) rfl rfl (p := 77) rfl (zgo rfl (z_cv1 cd_X11_student_77 (zv (key := 234) (by decide)) cl_X11_c234 rfl rfl rfl rfl (p := 80) rfl (fun _ => (zgo rfl (z_if_eq cd_X11_student_80 (p := 87) rfl (p2 := 83) rfl (zgo rfl (z_iconst cd_X11_student_87 ki_0 (p := 88) rfl (zgo rfl (z_iret cd_X11_student_88 rfl)))) (zgo rfl (z_iconst cd_X11_student_83 ki_1 (p := 84) rfl (zgo rfl (z_goto cd_X11_student_84 (p := 88) rfl (zgo rfl (z_iret cd_X11_student_88 rfl)))))))))))))))))) (z_swc ki_3 (zgo rfl (z_aload_n cd_X11_student_89 (j := 0) rfl rfl (p := 90) rfl (zgo rfl (z_getR cd_X11_student_90 fd_X11_12 (p := 93) rfl (fun _ => (zgo rfl (z_iload_n cd_X11_student_93 (j := 1) rfl rfl (p := 94) rfl (zgo rfl (z_cv1 cd_X11_student_94 (zv (key := 243) (by decide)) cl_X11_c243 rfl rfl rfl rfl (p := 97) rfl (fun _ => (zgo rfl (z_iret cd_X11_student_97 rfl)))))))))))) (z_swc ki_4 (zgo rfl (z_aload_n cd_X11_student_98 (j := 0) rfl rfl (p := 99) rfl (zgo rfl (z_getR cd_X11_student_99 fd_X11_12 (p := 102) rfl (fun _ => (zgo rfl (z_iload_n cd_X11_student_102 (j := 1) rfl rfl (p := 103) rfl (zgo rfl (z_cv1 cd_X11_student_103 (zv (key := 252) (by decide)) cl_X11_c252 rfl rfl rfl rfl (p := 106) rfl (fun _ => (zgo rfl (z_iret cd_X11_student_106 rfl)))))))))))) (z_swc ki_5 (zgo rfl (z_aload_n cd_X11_student_107 (j := 0) rfl rfl (p := 108) rfl (zgo rfl (z_getR cd_X11_student_108 fd_X11_12 (p := 111) rfl (fun _ => (zgo rfl (z_iload_n cd_X11_student_111 (j := 1) rfl rfl (p := 112) rfl (zgo rfl (z_cv1 cd_X11_student_112 (zv (key := 261) (by decide)) cl_X11_c261 rfl rfl rfl rfl (p := 115) rfl (fun _ => (zgo rfl (z_iret cd_X11_student_115 rfl)))))))))))) (z_swn (zgo rfl (z_iconst cd_X11_student_116 ki_m1 (p := 117) rfl (zgo rfl (z_iret cd_X11_student_117 rfl))))))))))))))))))))))))))
theorem cd_X11_error_0 : ylk m_X11_error.2.2.2.2.1 0 = some (.aload_n 0) := by decide +kernel
theorem cd_X11_error_1 : ylk m_X11_error.2.2.2.2.1 1 = some (.getfield 12) := by decide +kernel
theorem cd_X11_error_4 : ylk m_X11_error.2.2.2.2.1 4 = some (.iload_n 1) := by decide +kernel
theorem cd_X11_error_5 : ylk m_X11_error.2.2.2.2.1 5 = some (.invokevirtual 90) := by decide +kernel
theorem cd_X11_error_8 : ylk m_X11_error.2.2.2.2.1 8 = some (.ifCond .ne 5) := by decide +kernel
theorem cd_X11_error_11 : ylk m_X11_error.2.2.2.2.1 11 = some (.iconst (-1)) := by decide +kernel
theorem cd_X11_error_12 : ylk m_X11_error.2.2.2.2.1 12 = some (.ireturn) := by decide +kernel
theorem cd_X11_error_13 : ylk m_X11_error.2.2.2.2.1 13 = some (.iload_n 2) := by decide +kernel
theorem cd_X11_error_14 : ylk m_X11_error.2.2.2.2.1 14 = some (.tableswitch 139 0 7 #[46, 56, 66, 76, 86, 103, 113, 122]) := by decide +kernel
theorem cd_X11_error_60 : ylk m_X11_error.2.2.2.2.1 60 = some (.aload_n 0) := by decide +kernel
theorem cd_X11_error_61 : ylk m_X11_error.2.2.2.2.1 61 = some (.getfield 12) := by decide +kernel
theorem cd_X11_error_64 : ylk m_X11_error.2.2.2.2.1 64 = some (.getfield 93) := by decide +kernel
theorem cd_X11_error_67 : ylk m_X11_error.2.2.2.2.1 67 = some (.iload_n 1) := by decide +kernel
theorem cd_X11_error_68 : ylk m_X11_error.2.2.2.2.1 68 = some (.iaload) := by decide +kernel
theorem cd_X11_error_69 : ylk m_X11_error.2.2.2.2.1 69 = some (.ireturn) := by decide +kernel
theorem cd_X11_error_70 : ylk m_X11_error.2.2.2.2.1 70 = some (.aload_n 0) := by decide +kernel
theorem cd_X11_error_71 : ylk m_X11_error.2.2.2.2.1 71 = some (.getfield 12) := by decide +kernel
theorem cd_X11_error_74 : ylk m_X11_error.2.2.2.2.1 74 = some (.getfield 96) := by decide +kernel
theorem cd_X11_error_77 : ylk m_X11_error.2.2.2.2.1 77 = some (.iload_n 1) := by decide +kernel
theorem cd_X11_error_78 : ylk m_X11_error.2.2.2.2.1 78 = some (.iaload) := by decide +kernel
theorem cd_X11_error_79 : ylk m_X11_error.2.2.2.2.1 79 = some (.ireturn) := by decide +kernel
theorem cd_X11_error_80 : ylk m_X11_error.2.2.2.2.1 80 = some (.aload_n 0) := by decide +kernel
theorem cd_X11_error_81 : ylk m_X11_error.2.2.2.2.1 81 = some (.getfield 12) := by decide +kernel
theorem cd_X11_error_84 : ylk m_X11_error.2.2.2.2.1 84 = some (.getfield 99) := by decide +kernel
theorem cd_X11_error_87 : ylk m_X11_error.2.2.2.2.1 87 = some (.iload_n 1) := by decide +kernel
theorem cd_X11_error_88 : ylk m_X11_error.2.2.2.2.1 88 = some (.iaload) := by decide +kernel
theorem cd_X11_error_89 : ylk m_X11_error.2.2.2.2.1 89 = some (.ireturn) := by decide +kernel
theorem cd_X11_error_90 : ylk m_X11_error.2.2.2.2.1 90 = some (.aload_n 0) := by decide +kernel
theorem cd_X11_error_91 : ylk m_X11_error.2.2.2.2.1 91 = some (.getfield 12) := by decide +kernel
theorem cd_X11_error_94 : ylk m_X11_error.2.2.2.2.1 94 = some (.getfield 102) := by decide +kernel
theorem cd_X11_error_97 : ylk m_X11_error.2.2.2.2.1 97 = some (.iload_n 1) := by decide +kernel
theorem cd_X11_error_98 : ylk m_X11_error.2.2.2.2.1 98 = some (.iaload) := by decide +kernel
theorem cd_X11_error_99 : ylk m_X11_error.2.2.2.2.1 99 = some (.ireturn) := by decide +kernel
theorem cd_X11_error_100 : ylk m_X11_error.2.2.2.2.1 100 = some (.aload_n 0) := by decide +kernel
theorem cd_X11_error_101 : ylk m_X11_error.2.2.2.2.1 101 = some (.getfield 12) := by decide +kernel
theorem cd_X11_error_104 : ylk m_X11_error.2.2.2.2.1 104 = some (.iload_n 1) := by decide +kernel
theorem cd_X11_error_105 : ylk m_X11_error.2.2.2.2.1 105 = some (.invokevirtual 105) := by decide +kernel
theorem cd_X11_error_108 : ylk m_X11_error.2.2.2.2.1 108 = some (.ifCond .eq 7) := by decide +kernel
theorem cd_X11_error_111 : ylk m_X11_error.2.2.2.2.1 111 = some (.iconst 1) := by decide +kernel
theorem cd_X11_error_112 : ylk m_X11_error.2.2.2.2.1 112 = some (.goto 4) := by decide +kernel
theorem cd_X11_error_115 : ylk m_X11_error.2.2.2.2.1 115 = some (.iconst 0) := by decide +kernel
theorem cd_X11_error_116 : ylk m_X11_error.2.2.2.2.1 116 = some (.ireturn) := by decide +kernel
theorem cd_X11_error_117 : ylk m_X11_error.2.2.2.2.1 117 = some (.aload_n 0) := by decide +kernel
theorem cd_X11_error_118 : ylk m_X11_error.2.2.2.2.1 118 = some (.getfield 12) := by decide +kernel
theorem cd_X11_error_121 : ylk m_X11_error.2.2.2.2.1 121 = some (.getfield 108) := by decide +kernel
theorem cd_X11_error_124 : ylk m_X11_error.2.2.2.2.1 124 = some (.iload_n 1) := by decide +kernel
theorem cd_X11_error_125 : ylk m_X11_error.2.2.2.2.1 125 = some (.iaload) := by decide +kernel
theorem cd_X11_error_126 : ylk m_X11_error.2.2.2.2.1 126 = some (.ireturn) := by decide +kernel
theorem cd_X11_error_127 : ylk m_X11_error.2.2.2.2.1 127 = some (.aload_n 0) := by decide +kernel
theorem cd_X11_error_128 : ylk m_X11_error.2.2.2.2.1 128 = some (.getfield 12) := by decide +kernel
theorem cd_X11_error_131 : ylk m_X11_error.2.2.2.2.1 131 = some (.iload_n 1) := by decide +kernel
theorem cd_X11_error_132 : ylk m_X11_error.2.2.2.2.1 132 = some (.invokevirtual 111) := by decide +kernel
theorem cd_X11_error_135 : ylk m_X11_error.2.2.2.2.1 135 = some (.ireturn) := by decide +kernel
theorem cd_X11_error_136 : ylk m_X11_error.2.2.2.2.1 136 = some (.aload_n 0) := by decide +kernel
theorem cd_X11_error_137 : ylk m_X11_error.2.2.2.2.1 137 = some (.getfield 12) := by decide +kernel
theorem cd_X11_error_140 : ylk m_X11_error.2.2.2.2.1 140 = some (.iload_n 1) := by decide +kernel
theorem cd_X11_error_141 : ylk m_X11_error.2.2.2.2.1 141 = some (.aload_n 0) := by decide +kernel
theorem cd_X11_error_142 : ylk m_X11_error.2.2.2.2.1 142 = some (.getfield 12) := by decide +kernel
theorem cd_X11_error_145 : ylk m_X11_error.2.2.2.2.1 145 = some (.iload_n 1) := by decide +kernel
theorem cd_X11_error_146 : ylk m_X11_error.2.2.2.2.1 146 = some (.invokevirtual 111) := by decide +kernel
theorem cd_X11_error_149 : ylk m_X11_error.2.2.2.2.1 149 = some (.invokevirtual 114) := by decide +kernel
theorem cd_X11_error_152 : ylk m_X11_error.2.2.2.2.1 152 = some (.ireturn) := by decide +kernel
theorem cd_X11_error_153 : ylk m_X11_error.2.2.2.2.1 153 = some (.iconst (-1)) := by decide +kernel
theorem cd_X11_error_154 : ylk m_X11_error.2.2.2.2.1 154 = some (.ireturn) := by decide +kernel
noncomputable abbrev yb_X11_error (C : yC) : ySt → Option (Option Value × yM) := yrn m_X11_error C
theorem en_X11_error (n : Nat) (A : yM) (v0 : Nat) (v1 : Int32) (v2 : Int32) : ycall (n + 1) 74 [.ref v0, .int v1, .int v2] A = ygR A v0 10 0 (fun a1 => (yi (yvt [(0, 2)] (ycall n) [.ref a1, .int v1] A)).bind (fun z2 => if z2.1 = 0 then (some (some (.int (-1 : Int32)), z2.2)) else (if v2 = (0 : Int32) then (ygR z2.2 v0 10 0 (fun a23 => ygR z2.2 a23 0 6 (fun a24 => yrd z2.2 a24 v1 (fun x25 => some (some (.int x25), z2.2))))) else (if v2 = (1 : Int32) then (ygR z2.2 v0 10 0 (fun a20 => ygR z2.2 a20 0 7 (fun a21 => yrd z2.2 a21 v1 (fun x22 => some (some (.int x22), z2.2))))) else (if v2 = (2 : Int32) then (ygR z2.2 v0 10 0 (fun a17 => ygR z2.2 a17 0 8 (fun a18 => yrd z2.2 a18 v1 (fun x19 => some (some (.int x19), z2.2))))) else (if v2 = (3 : Int32) then (ygR z2.2 v0 10 0 (fun a14 => ygR z2.2 a14 0 9 (fun a15 => yrd z2.2 a15 v1 (fun x16 => some (some (.int x16), z2.2))))) else (if v2 = (4 : Int32) then (ygR z2.2 v0 10 0 (fun a12 => (yi (yvt [(0, 4)] (ycall n) [.ref a12, .int v1] z2.2)).bind (fun z13 => if z13.1 = 0 then (some (some (.int (0 : Int32)), z13.2)) else (some (some (.int (1 : Int32)), z13.2))))) else (if v2 = (5 : Int32) then (ygR z2.2 v0 10 0 (fun a9 => ygR z2.2 a9 0 10 (fun a10 => yrd z2.2 a10 v1 (fun x11 => some (some (.int x11), z2.2))))) else (if v2 = (6 : Int32) then (ygR z2.2 v0 10 0 (fun a7 => (yi (yvt [(0, 13)] (ycall n) [.ref a7, .int v1] z2.2)).bind (fun z8 => some (some (.int z8.1), z8.2)))) else (if v2 = (7 : Int32) then (ygR z2.2 v0 10 0 (fun a3 => ygR z2.2 v0 10 0 (fun a4 => (yi (yvt [(0, 13)] (ycall n) [.ref a4, .int v1] z2.2)).bind (fun z5 => (yi (yvt [(0, 15)] (ycall n) [.ref a3, .int v1, .int z5.1] z5.2)).bind (fun z6 => some (some (.int z6.1), z6.2)))))) else (some (some (.int (-1 : Int32)), z2.2)))))))))))) := (ybig_blk 17 _).trans (z_aload_n cd_X11_error_0 (j := 0) rfl rfl (p := 1) rfl (zgo rfl (z_getR cd_X11_error_1 fd_X11_12 (p := 4) rfl (fun _ => (zgo rfl (z_iload_n cd_X11_error_4 (j := 1) rfl rfl (p := 5) rfl (zgo rfl (z_cv1 cd_X11_error_5 (zv (key := 270) (by decide)) cl_X11_c270 rfl rfl rfl rfl (p := 8) rfl (fun _ => (zgo rfl (z_if_ne cd_X11_error_8 (p := 13) rfl (p2 := 11) rfl (zgo rfl (z_iconst cd_X11_error_11 ki_m1 (p := 12) rfl (zgo rfl (z_iret cd_X11_error_12 rfl)))) (zgo rfl (z_iload_n cd_X11_error_13 (j := 2) rfl rfl (p := 14) rfl (zgo rfl (z_sw cd_X11_error_14 (p := 153) rfl (ps := [(0, 60), (1, 70), (2, 80), (3, 90), (4, 100), (5, 117), (6, 127), (7, 136)]) rfl (z_swc ki_0 (zgo rfl (z_aload_n cd_X11_error_60 (j := 0) rfl rfl (p := 61) rfl (zgo rfl (z_getR cd_X11_error_61 fd_X11_12 (p := 64) rfl (fun _ => (zgo rfl (z_getR cd_X11_error_64 fd_X11_93 (p := 67) rfl (fun _ => (zgo rfl (z_iload_n cd_X11_error_67 (j := 1) rfl rfl (p := 68) rfl (zgo rfl (z_iaload cd_X11_error_68 (p := 69) rfl (fun _ => (zgo rfl (z_iret cd_X11_error_69 rfl))))))))))))))) (z_swc ki_1 (zgo rfl (z_aload_n cd_X11_error_70 (j := 0) rfl rfl (p := 71) rfl (zgo rfl (z_getR cd_X11_error_71 fd_X11_12 (p := 74) rfl (fun _ => (zgo rfl (z_getR cd_X11_error_74 fd_X11_96 (p := 77) rfl (fun _ => (zgo rfl (z_iload_n cd_X11_error_77 (j := 1) rfl rfl (p := 78) rfl (zgo rfl (z_iaload cd_X11_error_78 (p := 79) rfl (fun _ => (zgo rfl (z_iret cd_X11_error_79 rfl))))))))))))))) (z_swc ki_2 (zgo rfl (z_aload_n cd_X11_error_80 (j := 0) rfl rfl (p := 81) rfl (zgo rfl (z_getR cd_X11_error_81 fd_X11_12 (p := 84) rfl (fun _ => (zgo rfl (z_getR cd_X11_error_84 fd_X11_99 (p := 87) rfl (fun _ => (zgo rfl (z_iload_n cd_X11_error_87 (j := 1) rfl rfl (p := 88) rfl (zgo rfl (z_iaload cd_X11_error_88 (p := 89) rfl (fun _ => (zgo rfl (z_iret cd_X11_error_89 rfl))))))))))))))) (z_swc ki_3 (zgo rfl (z_aload_n cd_X11_error_90 (j := 0) rfl rfl (p := 91) rfl (zgo rfl (z_getR cd_X11_error_91 fd_X11_12 (p := 94) rfl (fun _ => (zgo rfl (z_getR cd_X11_error_94 fd_X11_102 (p := 97) rfl (fun _ => (zgo rfl (z_iload_n cd_X11_error_97 (j := 1) rfl rfl (p := 98) rfl (zgo rfl (z_iaload cd_X11_error_98 (p := 99) rfl (fun _ => (zgo rfl (z_iret cd_X11_error_99 rfl))))))))))))))) (z_swc ki_4 (zgo rfl (z_aload_n cd_X11_error_100 (j := 0) rfl rfl (p := 101) rfl (zgo rfl (z_getR cd_X11_error_101 fd_X11_12 (p := 104) rfl (fun _ => (zgo rfl (z_iload_n cd_X11_error_104 (j := 1) rfl rfl (p := 105) rfl (zgo rfl (z_cv1 cd_X11_error_105 (zv (key := 315) (by decide)) cl_X11_c315 rfl rfl rfl rfl (p := 108) rfl (fun _ => (zgo rfl (z_if_eq cd_X11_error_108 (p := 115) rfl (p2 := 111) rfl (zgo rfl (z_iconst cd_X11_error_115 ki_0 (p := 116) rfl (zgo rfl (z_iret cd_X11_error_116 rfl)))) (zgo rfl (z_iconst cd_X11_error_111 ki_1 (p := 112) rfl (zgo rfl (z_goto cd_X11_error_112 (p := 116) rfl (zgo rfl (z_iret cd_X11_error_116 rfl)))))))))))))))))) (z_swc ki_5 (zgo rfl (z_aload_n cd_X11_error_117 (j := 0) rfl rfl (p := 118) rfl (zgo rfl (z_getR cd_X11_error_118 fd_X11_12 (p := 121) rfl (fun _ => (zgo rfl (z_getR cd_X11_error_121 fd_X11_108 (p := 124) rfl (fun _ => (zgo rfl (z_iload_n cd_X11_error_124 (j := 1) rfl rfl (p := 125) rfl (zgo rfl (z_iaload cd_X11_error_125 (p := 126) rfl (fun _ => (zgo rfl (z_iret cd_X11_error_126 rfl))))))))))))))) (z_swc ki_6 (zgo rfl (z_aload_n cd_X11_error_127 (j := 0) rfl rfl (p := 128) rfl (zgo rfl (z_getR cd_X11_error_128 fd_X11_12 (p := 131) rfl (fun _ => (zgo rfl (z_iload_n cd_X11_error_131 (j := 1) rfl rfl (p := 132) rfl (zgo rfl (z_cv1 cd_X11_error_132 (zv (key := 333) (by decide)) cl_X11_c333 rfl rfl rfl rfl (p := 135) rfl (fun _ => (zgo rfl (z_iret cd_X11_error_135 rfl)))))))))))) (z_swc ki_7 (zgo rfl (z_aload_n cd_X11_error_136 (j := 0) rfl rfl (p := 137) rfl (zgo rfl (z_getR cd_X11_error_137 fd_X11_12 (p := 140) rfl (fun _ => (zgo rfl (z_iload_n cd_X11_error_140 (j := 1) rfl rfl (p := 141) rfl (zgo rfl (z_aload_n cd_X11_error_141 (j := 0) rfl rfl (p := 142) rfl (zgo rfl (z_getR cd_X11_error_142 fd_X11_12 (p := 145) rfl (fun _ => (zgo rfl (z_iload_n cd_X11_error_145 (j := 1) rfl rfl (p := 146) rfl (zgo rfl (z_cv1 cd_X11_error_146 (zv (key := 333) (by decide)) cl_X11_c333 rfl rfl rfl rfl (p := 149) rfl (fun _ => (zgo rfl (z_cv1 cd_X11_error_149 (zv (key := 342) (by decide)) cl_X11_c342 rfl rfl rfl rfl (p := 152) rfl (fun _ => (zgo rfl (z_iret cd_X11_error_152 rfl)))))))))))))))))))))) (z_swn (zgo rfl (z_iconst cd_X11_error_153 ki_m1 (p := 154) rfl (zgo rfl (z_iret cd_X11_error_154 rfl))))))))))))))))))))))))))))
theorem cd_X11_comes_0 : ylk m_X11_comes.2.2.2.2.1 0 = some (.aload_n 0) := by decide +kernel
theorem cd_X11_comes_1 : ylk m_X11_comes.2.2.2.2.1 1 = some (.iload_n 1) := by decide +kernel
theorem cd_X11_comes_2 : ylk m_X11_comes.2.2.2.2.1 2 = some (.invokevirtual 118) := by decide +kernel
theorem cd_X11_comes_5 : ylk m_X11_comes.2.2.2.2.1 5 = some (.istore_n 2) := by decide +kernel
theorem cd_X11_comes_6 : ylk m_X11_comes.2.2.2.2.1 6 = some (.iload_n 2) := by decide +kernel
theorem cd_X11_comes_7 : ylk m_X11_comes.2.2.2.2.1 7 = some (.ifCond .eq 7) := by decide +kernel
theorem cd_X11_comes_10 : ylk m_X11_comes.2.2.2.2.1 10 = some (.iload_n 2) := by decide +kernel
theorem cd_X11_comes_11 : ylk m_X11_comes.2.2.2.2.1 11 = some (.goto 28) := by decide +kernel
theorem cd_X11_comes_14 : ylk m_X11_comes.2.2.2.2.1 14 = some (.aload_n 0) := by decide +kernel
theorem cd_X11_comes_15 : ylk m_X11_comes.2.2.2.2.1 15 = some (.getfield 12) := by decide +kernel
theorem cd_X11_comes_18 : ylk m_X11_comes.2.2.2.2.1 18 = some (.aload_n 0) := by decide +kernel
theorem cd_X11_comes_19 : ylk m_X11_comes.2.2.2.2.1 19 = some (.getfield 28) := by decide +kernel
theorem cd_X11_comes_22 : ylk m_X11_comes.2.2.2.2.1 22 = some (.iload_n 1) := by decide +kernel
theorem cd_X11_comes_23 : ylk m_X11_comes.2.2.2.2.1 23 = some (.aaload) := by decide +kernel
theorem cd_X11_comes_24 : ylk m_X11_comes.2.2.2.2.1 24 = some (.getfield 121) := by decide +kernel
theorem cd_X11_comes_27 : ylk m_X11_comes.2.2.2.2.1 27 = some (.aload_n 0) := by decide +kernel
theorem cd_X11_comes_28 : ylk m_X11_comes.2.2.2.2.1 28 = some (.getfield 28) := by decide +kernel
theorem cd_X11_comes_31 : ylk m_X11_comes.2.2.2.2.1 31 = some (.iload_n 1) := by decide +kernel
theorem cd_X11_comes_32 : ylk m_X11_comes.2.2.2.2.1 32 = some (.aaload) := by decide +kernel
theorem cd_X11_comes_33 : ylk m_X11_comes.2.2.2.2.1 33 = some (.getfield 123) := by decide +kernel
theorem cd_X11_comes_36 : ylk m_X11_comes.2.2.2.2.1 36 = some (.invokevirtual 125) := by decide +kernel
theorem cd_X11_comes_39 : ylk m_X11_comes.2.2.2.2.1 39 = some (.ireturn) := by decide +kernel
noncomputable abbrev yb_X11_comes (C : yC) : ySt → Option (Option Value × yM) := yrn m_X11_comes C
theorem en_X11_comes (n : Nat) (A : yM) (v0 : Nat) (v1 : Int32) : ycall (n + 1) 75 [.ref v0, .int v1] A = (yi (yvt [(10, 136)] (ycall n) [.ref v0, .int v1] A)).bind (fun z1 => if z1.1 = 0 then (ygR z1.2 v0 10 0 (fun a2 => ygR z1.2 v0 10 4 (fun a3 => yrR z1.2 a3 v1 (fun a4 => ygI z1.2 a4 7 1 (fun x5 => ygR z1.2 v0 10 4 (fun a6 => yrR z1.2 a6 v1 (fun a7 => ygI z1.2 a7 7 2 (fun x8 => (yi (yvt [(0, 5)] (ycall n) [.ref a2, .int x5, .int x8] z1.2)).bind (fun z9 => some (some (.int z9.1), z9.2)))))))))) else (some (some (.int z1.1), z1.2))) := (ybig_blk 21 _).trans (z_aload_n cd_X11_comes_0 (j := 0) rfl rfl (p := 1) rfl (zgo rfl (z_iload_n cd_X11_comes_1 (j := 1) rfl rfl (p := 2) rfl (zgo rfl (z_cv1 cd_X11_comes_2 (zv (key := 354) (by decide)) cl_X11_c354 rfl rfl rfl rfl (p := 5) rfl (fun _ => (zgo rfl (z_istore_n cd_X11_comes_5 (j := 2) rfl rfl (p := 6) rfl (zgo rfl (z_iload_n cd_X11_comes_6 (j := 2) rfl rfl (p := 7) rfl (zgo rfl (z_if_eq cd_X11_comes_7 (p := 14) rfl (p2 := 10) rfl (zgo rfl (z_aload_n cd_X11_comes_14 (j := 0) rfl rfl (p := 15) rfl (zgo rfl (z_getR cd_X11_comes_15 fd_X11_12 (p := 18) rfl (fun _ => (zgo rfl (z_aload_n cd_X11_comes_18 (j := 0) rfl rfl (p := 19) rfl (zgo rfl (z_getR cd_X11_comes_19 fd_X11_28 (p := 22) rfl (fun _ => (zgo rfl (z_iload_n cd_X11_comes_22 (j := 1) rfl rfl (p := 23) rfl (zgo rfl (z_aaload cd_X11_comes_23 (p := 24) rfl (fun _ => (zgo rfl (z_getI cd_X11_comes_24 fd_X11_121 (p := 27) rfl (fun _ => (zgo rfl (z_aload_n cd_X11_comes_27 (j := 0) rfl rfl (p := 28) rfl (zgo rfl (z_getR cd_X11_comes_28 fd_X11_28 (p := 31) rfl (fun _ => (zgo rfl (z_iload_n cd_X11_comes_31 (j := 1) rfl rfl (p := 32) rfl (zgo rfl (z_aaload cd_X11_comes_32 (p := 33) rfl (fun _ => (zgo rfl (z_getI cd_X11_comes_33 fd_X11_123 (p := 36) rfl (fun _ => (zgo rfl (z_cv1 cd_X11_comes_36 (zv (key := 375) (by decide)) cl_X11_c375 rfl rfl rfl rfl (p := 39) rfl (fun _ => (zgo rfl (z_iret cd_X11_comes_39 rfl)))))))))))))))))))))))))))))))))))) (zgo rfl (z_iload_n cd_X11_comes_10 (j := 2) rfl rfl (p := 11) rfl (zgo rfl (z_goto cd_X11_comes_11 (p := 39) rfl (zgo rfl (z_iret cd_X11_comes_39 rfl))))))))))))))))))
theorem cd_X11_errs_0 : ylk m_X11_errs.2.2.2.2.1 0 = some (.aload_n 0) := by decide +kernel
theorem cd_X11_errs_1 : ylk m_X11_errs.2.2.2.2.1 1 = some (.getfield 12) := by decide +kernel
theorem cd_X11_errs_4 : ylk m_X11_errs.2.2.2.2.1 4 = some (.iload_n 1) := by decide +kernel
theorem cd_X11_errs_5 : ylk m_X11_errs.2.2.2.2.1 5 = some (.iload_n 2) := by decide +kernel
theorem cd_X11_errs_6 : ylk m_X11_errs.2.2.2.2.1 6 = some (.iload_n 3) := by decide +kernel
theorem cd_X11_errs_7 : ylk m_X11_errs.2.2.2.2.1 7 = some (.iload 4) := by decide +kernel
theorem cd_X11_errs_9 : ylk m_X11_errs.2.2.2.2.1 9 = some (.invokevirtual 128) := by decide +kernel
theorem cd_X11_errs_12 : ylk m_X11_errs.2.2.2.2.1 12 = some (.ireturn) := by decide +kernel
noncomputable abbrev yb_X11_errs (C : yC) : ySt → Option (Option Value × yM) := yrn m_X11_errs C
theorem en_X11_errs (n : Nat) (A : yM) (v0 : Nat) (v1 : Int32) (v2 : Int32) (v3 : Int32) (v4 : Int32) : ycall (n + 1) 76 [.ref v0, .int v1, .int v2, .int v3, .int v4] A = ygR A v0 10 0 (fun a1 => (yi (yvt [(0, 6)] (ycall n) [.ref a1, .int v1, .int v2, .int v3, .int v4] A)).bind (fun z2 => some (some (.int z2.1), z2.2))) := (ybig_blk 9 _).trans (z_aload_n cd_X11_errs_0 (j := 0) rfl rfl (p := 1) rfl (zgo rfl (z_getR cd_X11_errs_1 fd_X11_12 (p := 4) rfl (fun _ => (zgo rfl (z_iload_n cd_X11_errs_4 (j := 1) rfl rfl (p := 5) rfl (zgo rfl (z_iload_n cd_X11_errs_5 (j := 2) rfl rfl (p := 6) rfl (zgo rfl (z_iload_n cd_X11_errs_6 (j := 3) rfl rfl (p := 7) rfl (zgo rfl (z_iload cd_X11_errs_7 rfl (p := 9) rfl (zgo rfl (z_cv1 cd_X11_errs_9 (zv (key := 384) (by decide)) cl_X11_c384 rfl rfl rfl rfl (p := 12) rfl (fun _ => (zgo rfl (z_iret cd_X11_errs_12 rfl)))))))))))))))))
theorem cd_X11_corrects_0 : ylk m_X11_corrects.2.2.2.2.1 0 = some (.aload_n 0) := by decide +kernel
theorem cd_X11_corrects_1 : ylk m_X11_corrects.2.2.2.2.1 1 = some (.getfield 12) := by decide +kernel
theorem cd_X11_corrects_4 : ylk m_X11_corrects.2.2.2.2.1 4 = some (.iload_n 1) := by decide +kernel
theorem cd_X11_corrects_5 : ylk m_X11_corrects.2.2.2.2.1 5 = some (.iload_n 2) := by decide +kernel
theorem cd_X11_corrects_6 : ylk m_X11_corrects.2.2.2.2.1 6 = some (.invokevirtual 132) := by decide +kernel
theorem cd_X11_corrects_9 : ylk m_X11_corrects.2.2.2.2.1 9 = some (.ireturn) := by decide +kernel
noncomputable abbrev yb_X11_corrects (C : yC) : ySt → Option (Option Value × yM) := yrn m_X11_corrects C
theorem en_X11_corrects (n : Nat) (A : yM) (v0 : Nat) (v1 : Int32) (v2 : Int32) : ycall (n + 1) 77 [.ref v0, .int v1, .int v2] A = ygR A v0 10 0 (fun a1 => (yi (yvt [(0, 7)] (ycall n) [.ref a1, .int v1, .int v2] A)).bind (fun z2 => some (some (.int z2.1), z2.2))) := (ybig_blk 7 _).trans (z_aload_n cd_X11_corrects_0 (j := 0) rfl rfl (p := 1) rfl (zgo rfl (z_getR cd_X11_corrects_1 fd_X11_12 (p := 4) rfl (fun _ => (zgo rfl (z_iload_n cd_X11_corrects_4 (j := 1) rfl rfl (p := 5) rfl (zgo rfl (z_iload_n cd_X11_corrects_5 (j := 2) rfl rfl (p := 6) rfl (zgo rfl (z_cv1 cd_X11_corrects_6 (zv (key := 396) (by decide)) cl_X11_c396 rfl rfl rfl rfl (p := 9) rfl (fun _ => (zgo rfl (z_iret cd_X11_corrects_9 rfl)))))))))))))
theorem cd_X11_sends_0 : ylk m_X11_sends.2.2.2.2.1 0 = some (.aload_n 0) := by decide +kernel
theorem cd_X11_sends_1 : ylk m_X11_sends.2.2.2.2.1 1 = some (.getfield 12) := by decide +kernel
theorem cd_X11_sends_4 : ylk m_X11_sends.2.2.2.2.1 4 = some (.iload_n 1) := by decide +kernel
theorem cd_X11_sends_5 : ylk m_X11_sends.2.2.2.2.1 5 = some (.invokevirtual 135) := by decide +kernel
theorem cd_X11_sends_8 : ylk m_X11_sends.2.2.2.2.1 8 = some (.ireturn) := by decide +kernel
noncomputable abbrev yb_X11_sends (C : yC) : ySt → Option (Option Value × yM) := yrn m_X11_sends C
theorem en_X11_sends (n : Nat) (A : yM) (v0 : Nat) (v1 : Int32) : ycall (n + 1) 78 [.ref v0, .int v1] A = ygR A v0 10 0 (fun a1 => (yi (yvt [(0, 8)] (ycall n) [.ref a1, .int v1] A)).bind (fun z2 => some (some (.int z2.1), z2.2))) := (ybig_blk 6 _).trans (z_aload_n cd_X11_sends_0 (j := 0) rfl rfl (p := 1) rfl (zgo rfl (z_getR cd_X11_sends_1 fd_X11_12 (p := 4) rfl (fun _ => (zgo rfl (z_iload_n cd_X11_sends_4 (j := 1) rfl rfl (p := 5) rfl (zgo rfl (z_cv1 cd_X11_sends_5 (zv (key := 405) (by decide)) cl_X11_c405 rfl rfl rfl rfl (p := 8) rfl (fun _ => (zgo rfl (z_iret cd_X11_sends_8 rfl)))))))))))
theorem cd_X11_weeks_0 : ylk m_X11_weeks.2.2.2.2.1 0 = some (.aload_n 0) := by decide +kernel
theorem cd_X11_weeks_1 : ylk m_X11_weeks.2.2.2.2.1 1 = some (.getfield 12) := by decide +kernel
theorem cd_X11_weeks_4 : ylk m_X11_weeks.2.2.2.2.1 4 = some (.iload_n 1) := by decide +kernel
theorem cd_X11_weeks_5 : ylk m_X11_weeks.2.2.2.2.1 5 = some (.invokevirtual 138) := by decide +kernel
theorem cd_X11_weeks_8 : ylk m_X11_weeks.2.2.2.2.1 8 = some (.istore_n 2) := by decide +kernel
theorem cd_X11_weeks_9 : ylk m_X11_weeks.2.2.2.2.1 9 = some (.iload_n 2) := by decide +kernel
theorem cd_X11_weeks_10 : ylk m_X11_weeks.2.2.2.2.1 10 = some (.ifCond .eq 7) := by decide +kernel
theorem cd_X11_weeks_13 : ylk m_X11_weeks.2.2.2.2.1 13 = some (.iload_n 2) := by decide +kernel
theorem cd_X11_weeks_14 : ylk m_X11_weeks.2.2.2.2.1 14 = some (.goto 10) := by decide +kernel
theorem cd_X11_weeks_17 : ylk m_X11_weeks.2.2.2.2.1 17 = some (.aload_n 0) := by decide +kernel
theorem cd_X11_weeks_18 : ylk m_X11_weeks.2.2.2.2.1 18 = some (.getfield 12) := by decide +kernel
theorem cd_X11_weeks_21 : ylk m_X11_weeks.2.2.2.2.1 21 = some (.invokevirtual 141) := by decide +kernel
theorem cd_X11_weeks_24 : ylk m_X11_weeks.2.2.2.2.1 24 = some (.ireturn) := by decide +kernel
noncomputable abbrev yb_X11_weeks (C : yC) : ySt → Option (Option Value × yM) := yrn m_X11_weeks C
theorem en_X11_weeks (n : Nat) (A : yM) (v0 : Nat) (v1 : Int32) : ycall (n + 1) 79 [.ref v0, .int v1] A = ygR A v0 10 0 (fun a1 => (yi (yvt [(0, 9)] (ycall n) [.ref a1, .int v1] A)).bind (fun z2 => if z2.1 = 0 then (ygR z2.2 v0 10 0 (fun a3 => (yi (yvt [(0, 18)] (ycall n) [.ref a3] z2.2)).bind (fun z4 => some (some (.int z4.1), z4.2)))) else (some (some (.int z2.1), z2.2)))) := (ybig_blk 12 _).trans (z_aload_n cd_X11_weeks_0 (j := 0) rfl rfl (p := 1) rfl (zgo rfl (z_getR cd_X11_weeks_1 fd_X11_12 (p := 4) rfl (fun _ => (zgo rfl (z_iload_n cd_X11_weeks_4 (j := 1) rfl rfl (p := 5) rfl (zgo rfl (z_cv1 cd_X11_weeks_5 (zv (key := 414) (by decide)) cl_X11_c414 rfl rfl rfl rfl (p := 8) rfl (fun _ => (zgo rfl (z_istore_n cd_X11_weeks_8 (j := 2) rfl rfl (p := 9) rfl (zgo rfl (z_iload_n cd_X11_weeks_9 (j := 2) rfl rfl (p := 10) rfl (zgo rfl (z_if_eq cd_X11_weeks_10 (p := 17) rfl (p2 := 13) rfl (zgo rfl (z_aload_n cd_X11_weeks_17 (j := 0) rfl rfl (p := 18) rfl (zgo rfl (z_getR cd_X11_weeks_18 fd_X11_12 (p := 21) rfl (fun _ => (zgo rfl (z_cv1 cd_X11_weeks_21 (zv (key := 423) (by decide)) cl_X11_c423 rfl rfl rfl rfl (p := 24) rfl (fun _ => (zgo rfl (z_iret cd_X11_weeks_24 rfl)))))))))) (zgo rfl (z_iload_n cd_X11_weeks_13 (j := 2) rfl rfl (p := 14) rfl (zgo rfl (z_goto cd_X11_weeks_14 (p := 24) rfl (zgo rfl (z_iret cd_X11_weeks_24 rfl)))))))))))))))))))))
theorem cd_X11_marksThen_0 : ylk m_X11_marksThen.2.2.2.2.1 0 = some (.aload_n 0) := by decide +kernel
theorem cd_X11_marksThen_1 : ylk m_X11_marksThen.2.2.2.2.1 1 = some (.getfield 12) := by decide +kernel
theorem cd_X11_marksThen_4 : ylk m_X11_marksThen.2.2.2.2.1 4 = some (.iload_n 1) := by decide +kernel
theorem cd_X11_marksThen_5 : ylk m_X11_marksThen.2.2.2.2.1 5 = some (.invokevirtual 68) := by decide +kernel
theorem cd_X11_marksThen_8 : ylk m_X11_marksThen.2.2.2.2.1 8 = some (.ifCond .eq 10) := by decide +kernel
theorem cd_X11_marksThen_11 : ylk m_X11_marksThen.2.2.2.2.1 11 = some (.iload_n 2) := by decide +kernel
theorem cd_X11_marksThen_12 : ylk m_X11_marksThen.2.2.2.2.1 12 = some (.invokestatic 145) := by decide +kernel
theorem cd_X11_marksThen_15 : ylk m_X11_marksThen.2.2.2.2.1 15 = some (.ifCond .ne 5) := by decide +kernel
theorem cd_X11_marksThen_18 : ylk m_X11_marksThen.2.2.2.2.1 18 = some (.iconst (-1)) := by decide +kernel
theorem cd_X11_marksThen_19 : ylk m_X11_marksThen.2.2.2.2.1 19 = some (.ireturn) := by decide +kernel
theorem cd_X11_marksThen_20 : ylk m_X11_marksThen.2.2.2.2.1 20 = some (.aload_n 0) := by decide +kernel
theorem cd_X11_marksThen_21 : ylk m_X11_marksThen.2.2.2.2.1 21 = some (.iload_n 2) := by decide +kernel
theorem cd_X11_marksThen_22 : ylk m_X11_marksThen.2.2.2.2.1 22 = some (.invokevirtual 148) := by decide +kernel
theorem cd_X11_marksThen_25 : ylk m_X11_marksThen.2.2.2.2.1 25 = some (.aload_n 0) := by decide +kernel
theorem cd_X11_marksThen_26 : ylk m_X11_marksThen.2.2.2.2.1 26 = some (.getfield 16) := by decide +kernel
theorem cd_X11_marksThen_29 : ylk m_X11_marksThen.2.2.2.2.1 29 = some (.iload_n 1) := by decide +kernel
theorem cd_X11_marksThen_30 : ylk m_X11_marksThen.2.2.2.2.1 30 = some (.invokevirtual 81) := by decide +kernel
theorem cd_X11_marksThen_33 : ylk m_X11_marksThen.2.2.2.2.1 33 = some (.ireturn) := by decide +kernel
noncomputable abbrev yb_X11_marksThen (C : yC) : ySt → Option (Option Value × yM) := yrn m_X11_marksThen C
theorem en_X11_marksThen (n : Nat) (A : yM) (v0 : Nat) (v1 : Int32) (v2 : Int32) : ycall (n + 1) 80 [.ref v0, .int v1, .int v2] A = ygR A v0 10 0 (fun a1 => (yi (yvt [(0, 1)] (ycall n) [.ref a1, .int v1] A)).bind (fun z2 => if z2.1 = 0 then (some (some (.int (-1 : Int32)), z2.2)) else ((yi ((ycall n) 85 [.int v2] z2.2)).bind (fun z3 => if z3.1 = 0 then (some (some (.int (-1 : Int32)), z3.2)) else ((yv (yvt [(10, 86)] (ycall n) [.ref v0, .int v2] z3.2)).bind (fun A4 => ygR A4 v0 10 1 (fun a5 => (yi (yvt [(0, 16)] (ycall n) [.ref a5, .int v1] A4)).bind (fun z6 => some (some (.int z6.1), z6.2))))))))) := (ybig_blk 17 _).trans (z_aload_n cd_X11_marksThen_0 (j := 0) rfl rfl (p := 1) rfl (zgo rfl (z_getR cd_X11_marksThen_1 fd_X11_12 (p := 4) rfl (fun _ => (zgo rfl (z_iload_n cd_X11_marksThen_4 (j := 1) rfl rfl (p := 5) rfl (zgo rfl (z_cv1 cd_X11_marksThen_5 (zv (key := 204) (by decide)) cl_X11_c204 rfl rfl rfl rfl (p := 8) rfl (fun _ => (zgo rfl (z_if_eq cd_X11_marksThen_8 (p := 18) rfl (p2 := 11) rfl (zgo rfl (z_iconst cd_X11_marksThen_18 ki_m1 (p := 19) rfl (zgo rfl (z_iret cd_X11_marksThen_19 rfl)))) (zgo rfl (z_iload_n cd_X11_marksThen_11 (j := 2) rfl rfl (p := 12) rfl (zgo rfl (z_cs1 cd_X11_marksThen_12 (zs (key := 436) (by decide)) cl_X11_c436 rfl rfl rfl rfl (p := 15) rfl (fun _ => (zgo rfl (z_if_ne cd_X11_marksThen_15 (p := 20) rfl (p2 := 18) rfl (zgo rfl (z_iconst cd_X11_marksThen_18 ki_m1 (p := 19) rfl (zgo rfl (z_iret cd_X11_marksThen_19 rfl)))) (zgo rfl (z_aload_n cd_X11_marksThen_20 (j := 0) rfl rfl (p := 21) rfl (zgo rfl (z_iload_n cd_X11_marksThen_21 (j := 2) rfl rfl (p := 22) rfl (zgo rfl (z_cv0 cd_X11_marksThen_22 (zv (key := 444) (by decide)) cl_X11_c444 rfl rfl rfl rfl (p := 25) rfl (fun _ => (zgo rfl (z_aload_n cd_X11_marksThen_25 (j := 0) rfl rfl (p := 26) rfl (zgo rfl (z_getR cd_X11_marksThen_26 fd_X11_16 (p := 29) rfl (fun _ => (zgo rfl (z_iload_n cd_X11_marksThen_29 (j := 1) rfl rfl (p := 30) rfl (zgo rfl (z_cv1 cd_X11_marksThen_30 (zv (key := 243) (by decide)) cl_X11_c243 rfl rfl rfl rfl (p := 33) rfl (fun _ => (zgo rfl (z_iret cd_X11_marksThen_33 rfl)))))))))))))))))))))))))))))))))))))
theorem cd_X11_sizeThen_0 : ylk m_X11_sizeThen.2.2.2.2.1 0 = some (.aload_n 0) := by decide +kernel
theorem cd_X11_sizeThen_1 : ylk m_X11_sizeThen.2.2.2.2.1 1 = some (.getfield 12) := by decide +kernel
theorem cd_X11_sizeThen_4 : ylk m_X11_sizeThen.2.2.2.2.1 4 = some (.iload_n 1) := by decide +kernel
theorem cd_X11_sizeThen_5 : ylk m_X11_sizeThen.2.2.2.2.1 5 = some (.invokevirtual 90) := by decide +kernel
theorem cd_X11_sizeThen_8 : ylk m_X11_sizeThen.2.2.2.2.1 8 = some (.ifCond .eq 10) := by decide +kernel
theorem cd_X11_sizeThen_11 : ylk m_X11_sizeThen.2.2.2.2.1 11 = some (.iload_n 2) := by decide +kernel
theorem cd_X11_sizeThen_12 : ylk m_X11_sizeThen.2.2.2.2.1 12 = some (.invokestatic 145) := by decide +kernel
theorem cd_X11_sizeThen_15 : ylk m_X11_sizeThen.2.2.2.2.1 15 = some (.ifCond .ne 5) := by decide +kernel
theorem cd_X11_sizeThen_18 : ylk m_X11_sizeThen.2.2.2.2.1 18 = some (.iconst (-1)) := by decide +kernel
theorem cd_X11_sizeThen_19 : ylk m_X11_sizeThen.2.2.2.2.1 19 = some (.ireturn) := by decide +kernel
theorem cd_X11_sizeThen_20 : ylk m_X11_sizeThen.2.2.2.2.1 20 = some (.aload_n 0) := by decide +kernel
theorem cd_X11_sizeThen_21 : ylk m_X11_sizeThen.2.2.2.2.1 21 = some (.iload_n 2) := by decide +kernel
theorem cd_X11_sizeThen_22 : ylk m_X11_sizeThen.2.2.2.2.1 22 = some (.invokevirtual 148) := by decide +kernel
theorem cd_X11_sizeThen_25 : ylk m_X11_sizeThen.2.2.2.2.1 25 = some (.aload_n 0) := by decide +kernel
theorem cd_X11_sizeThen_26 : ylk m_X11_sizeThen.2.2.2.2.1 26 = some (.getfield 16) := by decide +kernel
theorem cd_X11_sizeThen_29 : ylk m_X11_sizeThen.2.2.2.2.1 29 = some (.getfield 99) := by decide +kernel
theorem cd_X11_sizeThen_32 : ylk m_X11_sizeThen.2.2.2.2.1 32 = some (.iload_n 1) := by decide +kernel
theorem cd_X11_sizeThen_33 : ylk m_X11_sizeThen.2.2.2.2.1 33 = some (.iaload) := by decide +kernel
theorem cd_X11_sizeThen_34 : ylk m_X11_sizeThen.2.2.2.2.1 34 = some (.ireturn) := by decide +kernel
noncomputable abbrev yb_X11_sizeThen (C : yC) : ySt → Option (Option Value × yM) := yrn m_X11_sizeThen C
theorem en_X11_sizeThen (n : Nat) (A : yM) (v0 : Nat) (v1 : Int32) (v2 : Int32) : ycall (n + 1) 81 [.ref v0, .int v1, .int v2] A = ygR A v0 10 0 (fun a1 => (yi (yvt [(0, 2)] (ycall n) [.ref a1, .int v1] A)).bind (fun z2 => if z2.1 = 0 then (some (some (.int (-1 : Int32)), z2.2)) else ((yi ((ycall n) 85 [.int v2] z2.2)).bind (fun z3 => if z3.1 = 0 then (some (some (.int (-1 : Int32)), z3.2)) else ((yv (yvt [(10, 86)] (ycall n) [.ref v0, .int v2] z3.2)).bind (fun A4 => ygR A4 v0 10 1 (fun a5 => ygR A4 a5 0 8 (fun a6 => yrd A4 a6 v1 (fun x7 => some (some (.int x7), A4)))))))))) := (ybig_blk 18 _).trans (z_aload_n cd_X11_sizeThen_0 (j := 0) rfl rfl (p := 1) rfl (zgo rfl (z_getR cd_X11_sizeThen_1 fd_X11_12 (p := 4) rfl (fun _ => (zgo rfl (z_iload_n cd_X11_sizeThen_4 (j := 1) rfl rfl (p := 5) rfl (zgo rfl (z_cv1 cd_X11_sizeThen_5 (zv (key := 270) (by decide)) cl_X11_c270 rfl rfl rfl rfl (p := 8) rfl (fun _ => (zgo rfl (z_if_eq cd_X11_sizeThen_8 (p := 18) rfl (p2 := 11) rfl (zgo rfl (z_iconst cd_X11_sizeThen_18 ki_m1 (p := 19) rfl (zgo rfl (z_iret cd_X11_sizeThen_19 rfl)))) (zgo rfl (z_iload_n cd_X11_sizeThen_11 (j := 2) rfl rfl (p := 12) rfl (zgo rfl (z_cs1 cd_X11_sizeThen_12 (zs (key := 436) (by decide)) cl_X11_c436 rfl rfl rfl rfl (p := 15) rfl (fun _ => (zgo rfl (z_if_ne cd_X11_sizeThen_15 (p := 20) rfl (p2 := 18) rfl (zgo rfl (z_iconst cd_X11_sizeThen_18 ki_m1 (p := 19) rfl (zgo rfl (z_iret cd_X11_sizeThen_19 rfl)))) (zgo rfl (z_aload_n cd_X11_sizeThen_20 (j := 0) rfl rfl (p := 21) rfl (zgo rfl (z_iload_n cd_X11_sizeThen_21 (j := 2) rfl rfl (p := 22) rfl (zgo rfl (z_cv0 cd_X11_sizeThen_22 (zv (key := 444) (by decide)) cl_X11_c444 rfl rfl rfl rfl (p := 25) rfl (fun _ => (zgo rfl (z_aload_n cd_X11_sizeThen_25 (j := 0) rfl rfl (p := 26) rfl (zgo rfl (z_getR cd_X11_sizeThen_26 fd_X11_16 (p := 29) rfl (fun _ => (zgo rfl (z_getR cd_X11_sizeThen_29 fd_X11_99 (p := 32) rfl (fun _ => (zgo rfl (z_iload_n cd_X11_sizeThen_32 (j := 1) rfl rfl (p := 33) rfl (zgo rfl (z_iaload cd_X11_sizeThen_33 (p := 34) rfl (fun _ => (zgo rfl (z_iret cd_X11_sizeThen_34 rfl))))))))))))))))))))))))))))))))))))))))
theorem cd_X11_firstThen_0 : ylk m_X11_firstThen.2.2.2.2.1 0 = some (.iload_n 1) := by decide +kernel
theorem cd_X11_firstThen_1 : ylk m_X11_firstThen.2.2.2.2.1 1 = some (.invokestatic 145) := by decide +kernel
theorem cd_X11_firstThen_4 : ylk m_X11_firstThen.2.2.2.2.1 4 = some (.ifCond .ne 5) := by decide +kernel
theorem cd_X11_firstThen_7 : ylk m_X11_firstThen.2.2.2.2.1 7 = some (.iconst (-1)) := by decide +kernel
theorem cd_X11_firstThen_8 : ylk m_X11_firstThen.2.2.2.2.1 8 = some (.ireturn) := by decide +kernel
theorem cd_X11_firstThen_9 : ylk m_X11_firstThen.2.2.2.2.1 9 = some (.aload_n 0) := by decide +kernel
theorem cd_X11_firstThen_10 : ylk m_X11_firstThen.2.2.2.2.1 10 = some (.iload_n 1) := by decide +kernel
theorem cd_X11_firstThen_11 : ylk m_X11_firstThen.2.2.2.2.1 11 = some (.invokevirtual 148) := by decide +kernel
theorem cd_X11_firstThen_14 : ylk m_X11_firstThen.2.2.2.2.1 14 = some (.aload_n 0) := by decide +kernel
theorem cd_X11_firstThen_15 : ylk m_X11_firstThen.2.2.2.2.1 15 = some (.getfield 16) := by decide +kernel
theorem cd_X11_firstThen_18 : ylk m_X11_firstThen.2.2.2.2.1 18 = some (.invokevirtual 152) := by decide +kernel
theorem cd_X11_firstThen_21 : ylk m_X11_firstThen.2.2.2.2.1 21 = some (.ireturn) := by decide +kernel
noncomputable abbrev yb_X11_firstThen (C : yC) : ySt → Option (Option Value × yM) := yrn m_X11_firstThen C
theorem en_X11_firstThen (n : Nat) (A : yM) (v0 : Nat) (v1 : Int32) : ycall (n + 1) 82 [.ref v0, .int v1] A = (yi ((ycall n) 85 [.int v1] A)).bind (fun z1 => if z1.1 = 0 then (some (some (.int (-1 : Int32)), z1.2)) else ((yv (yvt [(10, 86)] (ycall n) [.ref v0, .int v1] z1.2)).bind (fun A2 => ygR A2 v0 10 1 (fun a3 => (yi (yvt [(0, 22)] (ycall n) [.ref a3] A2)).bind (fun z4 => some (some (.int z4.1), z4.2)))))) := (ybig_blk 11 _).trans (z_iload_n cd_X11_firstThen_0 (j := 1) rfl rfl (p := 1) rfl (zgo rfl (z_cs1 cd_X11_firstThen_1 (zs (key := 436) (by decide)) cl_X11_c436 rfl rfl rfl rfl (p := 4) rfl (fun _ => (zgo rfl (z_if_ne cd_X11_firstThen_4 (p := 9) rfl (p2 := 7) rfl (zgo rfl (z_iconst cd_X11_firstThen_7 ki_m1 (p := 8) rfl (zgo rfl (z_iret cd_X11_firstThen_8 rfl)))) (zgo rfl (z_aload_n cd_X11_firstThen_9 (j := 0) rfl rfl (p := 10) rfl (zgo rfl (z_iload_n cd_X11_firstThen_10 (j := 1) rfl rfl (p := 11) rfl (zgo rfl (z_cv0 cd_X11_firstThen_11 (zv (key := 444) (by decide)) cl_X11_c444 rfl rfl rfl rfl (p := 14) rfl (fun _ => (zgo rfl (z_aload_n cd_X11_firstThen_14 (j := 0) rfl rfl (p := 15) rfl (zgo rfl (z_getR cd_X11_firstThen_15 fd_X11_16 (p := 18) rfl (fun _ => (zgo rfl (z_cv1 cd_X11_firstThen_18 (zv (key := 456) (by decide)) cl_X11_c456 rfl rfl rfl rfl (p := 21) rfl (fun _ => (zgo rfl (z_iret cd_X11_firstThen_21 rfl)))))))))))))))))))))))
theorem cd_X11_firstWhen_0 : ylk m_X11_firstWhen.2.2.2.2.1 0 = some (.aload_n 0) := by decide +kernel
theorem cd_X11_firstWhen_1 : ylk m_X11_firstWhen.2.2.2.2.1 1 = some (.getfield 12) := by decide +kernel
theorem cd_X11_firstWhen_4 : ylk m_X11_firstWhen.2.2.2.2.1 4 = some (.iload_n 1) := by decide +kernel
theorem cd_X11_firstWhen_5 : ylk m_X11_firstWhen.2.2.2.2.1 5 = some (.invokevirtual 68) := by decide +kernel
theorem cd_X11_firstWhen_8 : ylk m_X11_firstWhen.2.2.2.2.1 8 = some (.ifCond .ne 5) := by decide +kernel
theorem cd_X11_firstWhen_11 : ylk m_X11_firstWhen.2.2.2.2.1 11 = some (.iconst (-1)) := by decide +kernel
theorem cd_X11_firstWhen_12 : ylk m_X11_firstWhen.2.2.2.2.1 12 = some (.ireturn) := by decide +kernel
theorem cd_X11_firstWhen_13 : ylk m_X11_firstWhen.2.2.2.2.1 13 = some (.aload_n 0) := by decide +kernel
theorem cd_X11_firstWhen_14 : ylk m_X11_firstWhen.2.2.2.2.1 14 = some (.getfield 16) := by decide +kernel
theorem cd_X11_firstWhen_17 : ylk m_X11_firstWhen.2.2.2.2.1 17 = some (.aload_n 0) := by decide +kernel
theorem cd_X11_firstWhen_18 : ylk m_X11_firstWhen.2.2.2.2.1 18 = some (.getfield 12) := by decide +kernel
theorem cd_X11_firstWhen_21 : ylk m_X11_firstWhen.2.2.2.2.1 21 = some (.invokevirtual 57) := by decide +kernel
theorem cd_X11_firstWhen_24 : ylk m_X11_firstWhen.2.2.2.2.1 24 = some (.iconst 0) := by decide +kernel
theorem cd_X11_firstWhen_25 : ylk m_X11_firstWhen.2.2.2.2.1 25 = some (.istore_n 2) := by decide +kernel
theorem cd_X11_firstWhen_26 : ylk m_X11_firstWhen.2.2.2.2.1 26 = some (.iload_n 2) := by decide +kernel
theorem cd_X11_firstWhen_27 : ylk m_X11_firstWhen.2.2.2.2.1 27 = some (.bipush 60) := by decide +kernel
theorem cd_X11_firstWhen_29 : ylk m_X11_firstWhen.2.2.2.2.1 29 = some (.if_icmp .gt 30) := by decide +kernel
theorem cd_X11_firstWhen_32 : ylk m_X11_firstWhen.2.2.2.2.1 32 = some (.aload_n 0) := by decide +kernel
theorem cd_X11_firstWhen_33 : ylk m_X11_firstWhen.2.2.2.2.1 33 = some (.getfield 16) := by decide +kernel
theorem cd_X11_firstWhen_36 : ylk m_X11_firstWhen.2.2.2.2.1 36 = some (.invokevirtual 152) := by decide +kernel
theorem cd_X11_firstWhen_39 : ylk m_X11_firstWhen.2.2.2.2.1 39 = some (.iload_n 1) := by decide +kernel
theorem cd_X11_firstWhen_40 : ylk m_X11_firstWhen.2.2.2.2.1 40 = some (.if_icmp .ne 5) := by decide +kernel
theorem cd_X11_firstWhen_43 : ylk m_X11_firstWhen.2.2.2.2.1 43 = some (.iload_n 2) := by decide +kernel
theorem cd_X11_firstWhen_44 : ylk m_X11_firstWhen.2.2.2.2.1 44 = some (.ireturn) := by decide +kernel
theorem cd_X11_firstWhen_45 : ylk m_X11_firstWhen.2.2.2.2.1 45 = some (.aload_n 0) := by decide +kernel
theorem cd_X11_firstWhen_46 : ylk m_X11_firstWhen.2.2.2.2.1 46 = some (.getfield 16) := by decide +kernel
theorem cd_X11_firstWhen_49 : ylk m_X11_firstWhen.2.2.2.2.1 49 = some (.iconst 1) := by decide +kernel
theorem cd_X11_firstWhen_50 : ylk m_X11_firstWhen.2.2.2.2.1 50 = some (.invokevirtual 155) := by decide +kernel
theorem cd_X11_firstWhen_53 : ylk m_X11_firstWhen.2.2.2.2.1 53 = some (.iinc 2 1) := by decide +kernel
theorem cd_X11_firstWhen_56 : ylk m_X11_firstWhen.2.2.2.2.1 56 = some (.goto (-30)) := by decide +kernel
theorem cd_X11_firstWhen_59 : ylk m_X11_firstWhen.2.2.2.2.1 59 = some (.bipush (-4)) := by decide +kernel
theorem cd_X11_firstWhen_61 : ylk m_X11_firstWhen.2.2.2.2.1 61 = some (.ireturn) := by decide +kernel
noncomputable abbrev yb_X11_firstWhen (C : yC) : ySt → Option (Option Value × yM) := yrn m_X11_firstWhen C
theorem en_X11_firstWhen (n : Nat) (A : yM) (v0 : Nat) (v1 : Int32) : ycall (n + 1) 83 [.ref v0, .int v1] A = ygR A v0 10 0 (fun a1 => (yi (yvt [(0, 1)] (ycall n) [.ref a1, .int v1] A)).bind (fun z2 => if z2.1 = 0 then (some (some (.int (-1 : Int32)), z2.2)) else (ygR z2.2 v0 10 1 (fun a3 => ygR z2.2 v0 10 0 (fun a4 => (yv (yvt [(0, 0)] (ycall n) [.ref a3, .ref a4] z2.2)).bind (fun A5 => yb_X11_firstWhen (ycall n) (26, [some (.ref v0), some (.int v1), some (.int (0 : Int32))], [], A5))))))) := (ybig_blk 13 _).trans (z_aload_n cd_X11_firstWhen_0 (j := 0) rfl rfl (p := 1) rfl (zgo rfl (z_getR cd_X11_firstWhen_1 fd_X11_12 (p := 4) rfl (fun _ => (zgo rfl (z_iload_n cd_X11_firstWhen_4 (j := 1) rfl rfl (p := 5) rfl (zgo rfl (z_cv1 cd_X11_firstWhen_5 (zv (key := 204) (by decide)) cl_X11_c204 rfl rfl rfl rfl (p := 8) rfl (fun _ => (zgo rfl (z_if_ne cd_X11_firstWhen_8 (p := 13) rfl (p2 := 11) rfl (zgo rfl (z_iconst cd_X11_firstWhen_11 ki_m1 (p := 12) rfl (zgo rfl (z_iret cd_X11_firstWhen_12 rfl)))) (zgo rfl (z_aload_n cd_X11_firstWhen_13 (j := 0) rfl rfl (p := 14) rfl (zgo rfl (z_getR cd_X11_firstWhen_14 fd_X11_16 (p := 17) rfl (fun _ => (zgo rfl (z_aload_n cd_X11_firstWhen_17 (j := 0) rfl rfl (p := 18) rfl (zgo rfl (z_getR cd_X11_firstWhen_18 fd_X11_12 (p := 21) rfl (fun _ => (zgo rfl (z_cv0 cd_X11_firstWhen_21 (zv (key := 171) (by decide)) cl_X11_c171 rfl rfl rfl rfl (p := 24) rfl (fun _ => (zgo rfl (z_iconst cd_X11_firstWhen_24 ki_0 (p := 25) rfl (zgo rfl (z_istore_n cd_X11_firstWhen_25 (j := 2) rfl rfl (p := 26) rfl (zcut (p := 26) rfl rfl)))))))))))))))))))))))))))))
theorem bk_X11_firstWhen_26 (C : yC) (A : yM) (v0 : Nat) (v1 : Int32) (v2 : Int32) : yb_X11_firstWhen C (26, [some (.ref v0), some (.int v1), some (.int v2)], [], A) = if (60 : Int32) < v2 then (some (some (.int (-4 : Int32)), A)) else (ygR A v0 10 1 (fun a1 => (yi (yvt [(0, 22)] C [.ref a1] A)).bind (fun z2 => if z2.1 = v1 then (some (some (.int v2), z2.2)) else (ygR z2.2 v0 10 1 (fun a3 => (yv (yvt [(0, 10)] C [.ref a3, .int (1 : Int32)] z2.2)).bind (fun A4 => yb_X11_firstWhen C (26, [some (.ref v0), some (.int v1), some (.int (v2 + (1 : Int32)))], [], A4))))))) := (ybig_blk 15 _).trans (z_iload_n cd_X11_firstWhen_26 (j := 2) rfl rfl (p := 27) rfl (zgo rfl (z_bipush cd_X11_firstWhen_27 kb_60 (p := 29) rfl (zgo rfl (z_ic_gt cd_X11_firstWhen_29 (p := 59) rfl (p2 := 32) rfl (zgo rfl (z_bipush cd_X11_firstWhen_59 kb_m4 (p := 61) rfl (zgo rfl (z_iret cd_X11_firstWhen_61 rfl)))) (zgo rfl (z_aload_n cd_X11_firstWhen_32 (j := 0) rfl rfl (p := 33) rfl (zgo rfl (z_getR cd_X11_firstWhen_33 fd_X11_16 (p := 36) rfl (fun _ => (zgo rfl (z_cv1 cd_X11_firstWhen_36 (zv (key := 456) (by decide)) cl_X11_c456 rfl rfl rfl rfl (p := 39) rfl (fun _ => (zgo rfl (z_iload_n cd_X11_firstWhen_39 (j := 1) rfl rfl (p := 40) rfl (zgo rfl (z_ic_ne cd_X11_firstWhen_40 (p := 45) rfl (p2 := 43) rfl (zgo rfl (z_iload_n cd_X11_firstWhen_43 (j := 2) rfl rfl (p := 44) rfl (zgo rfl (z_iret cd_X11_firstWhen_44 rfl)))) (zgo rfl (z_aload_n cd_X11_firstWhen_45 (j := 0) rfl rfl (p := 46) rfl (zgo rfl (z_getR cd_X11_firstWhen_46 fd_X11_16 (p := 49) rfl (fun _ => (zgo rfl (z_iconst cd_X11_firstWhen_49 ki_1 (p := 50) rfl (zgo rfl (z_cv0 cd_X11_firstWhen_50 (zv (key := 465) (by decide)) cl_X11_c465 rfl rfl rfl rfl (p := 53) rfl (fun _ => (zgo rfl (z_iinc cd_X11_firstWhen_53 ki_1 rfl rfl (p := 56) rfl (zgo rfl (z_goto cd_X11_firstWhen_56 (p := 26) rfl (zcut (p := 26) rfl rfl))))))))))))))))))))))))))))))))
theorem cd_X11_degree_0 : ylk m_X11_degree.2.2.2.2.1 0 = some (.aload_n 0) := by decide +kernel
theorem cd_X11_degree_1 : ylk m_X11_degree.2.2.2.2.1 1 = some (.getfield 12) := by decide +kernel
theorem cd_X11_degree_4 : ylk m_X11_degree.2.2.2.2.1 4 = some (.iload_n 1) := by decide +kernel
theorem cd_X11_degree_5 : ylk m_X11_degree.2.2.2.2.1 5 = some (.invokevirtual 68) := by decide +kernel
theorem cd_X11_degree_8 : ylk m_X11_degree.2.2.2.2.1 8 = some (.ifCond .eq 15) := by decide +kernel
theorem cd_X11_degree_11 : ylk m_X11_degree.2.2.2.2.1 11 = some (.iload_n 2) := by decide +kernel
theorem cd_X11_degree_12 : ylk m_X11_degree.2.2.2.2.1 12 = some (.iconst 1) := by decide +kernel
theorem cd_X11_degree_13 : ylk m_X11_degree.2.2.2.2.1 13 = some (.if_icmp .lt 10) := by decide +kernel
theorem cd_X11_degree_16 : ylk m_X11_degree.2.2.2.2.1 16 = some (.iload_n 2) := by decide +kernel
theorem cd_X11_degree_17 : ylk m_X11_degree.2.2.2.2.1 17 = some (.sipush 999) := by decide +kernel
theorem cd_X11_degree_20 : ylk m_X11_degree.2.2.2.2.1 20 = some (.if_icmp .le 5) := by decide +kernel
theorem cd_X11_degree_23 : ylk m_X11_degree.2.2.2.2.1 23 = some (.iconst (-1)) := by decide +kernel
theorem cd_X11_degree_24 : ylk m_X11_degree.2.2.2.2.1 24 = some (.ireturn) := by decide +kernel
theorem cd_X11_degree_25 : ylk m_X11_degree.2.2.2.2.1 25 = some (.aload_n 0) := by decide +kernel
theorem cd_X11_degree_26 : ylk m_X11_degree.2.2.2.2.1 26 = some (.getfield 16) := by decide +kernel
theorem cd_X11_degree_29 : ylk m_X11_degree.2.2.2.2.1 29 = some (.aload_n 0) := by decide +kernel
theorem cd_X11_degree_30 : ylk m_X11_degree.2.2.2.2.1 30 = some (.getfield 12) := by decide +kernel
theorem cd_X11_degree_33 : ylk m_X11_degree.2.2.2.2.1 33 = some (.invokevirtual 57) := by decide +kernel
theorem cd_X11_degree_36 : ylk m_X11_degree.2.2.2.2.1 36 = some (.iconst 0) := by decide +kernel
theorem cd_X11_degree_37 : ylk m_X11_degree.2.2.2.2.1 37 = some (.istore_n 3) := by decide +kernel
theorem cd_X11_degree_38 : ylk m_X11_degree.2.2.2.2.1 38 = some (.iload_n 3) := by decide +kernel
theorem cd_X11_degree_39 : ylk m_X11_degree.2.2.2.2.1 39 = some (.bipush 60) := by decide +kernel
theorem cd_X11_degree_41 : ylk m_X11_degree.2.2.2.2.1 41 = some (.if_icmp .gt 31) := by decide +kernel
theorem cd_X11_degree_44 : ylk m_X11_degree.2.2.2.2.1 44 = some (.aload_n 0) := by decide +kernel
theorem cd_X11_degree_45 : ylk m_X11_degree.2.2.2.2.1 45 = some (.getfield 16) := by decide +kernel
theorem cd_X11_degree_48 : ylk m_X11_degree.2.2.2.2.1 48 = some (.iload_n 1) := by decide +kernel
theorem cd_X11_degree_49 : ylk m_X11_degree.2.2.2.2.1 49 = some (.invokevirtual 81) := by decide +kernel
theorem cd_X11_degree_52 : ylk m_X11_degree.2.2.2.2.1 52 = some (.iload_n 2) := by decide +kernel
theorem cd_X11_degree_53 : ylk m_X11_degree.2.2.2.2.1 53 = some (.if_icmp .lt 5) := by decide +kernel
theorem cd_X11_degree_56 : ylk m_X11_degree.2.2.2.2.1 56 = some (.iload_n 3) := by decide +kernel
theorem cd_X11_degree_57 : ylk m_X11_degree.2.2.2.2.1 57 = some (.ireturn) := by decide +kernel
theorem cd_X11_degree_58 : ylk m_X11_degree.2.2.2.2.1 58 = some (.aload_n 0) := by decide +kernel
theorem cd_X11_degree_59 : ylk m_X11_degree.2.2.2.2.1 59 = some (.getfield 16) := by decide +kernel
theorem cd_X11_degree_62 : ylk m_X11_degree.2.2.2.2.1 62 = some (.iconst 1) := by decide +kernel
theorem cd_X11_degree_63 : ylk m_X11_degree.2.2.2.2.1 63 = some (.invokevirtual 155) := by decide +kernel
theorem cd_X11_degree_66 : ylk m_X11_degree.2.2.2.2.1 66 = some (.iinc 3 1) := by decide +kernel
theorem cd_X11_degree_69 : ylk m_X11_degree.2.2.2.2.1 69 = some (.goto (-31)) := by decide +kernel
theorem cd_X11_degree_72 : ylk m_X11_degree.2.2.2.2.1 72 = some (.bipush (-4)) := by decide +kernel
theorem cd_X11_degree_74 : ylk m_X11_degree.2.2.2.2.1 74 = some (.ireturn) := by decide +kernel
noncomputable abbrev yb_X11_degree (C : yC) : ySt → Option (Option Value × yM) := yrn m_X11_degree C
theorem en_X11_degree (n : Nat) (A : yM) (v0 : Nat) (v1 : Int32) (v2 : Int32) : ycall (n + 1) 84 [.ref v0, .int v1, .int v2] A = ygR A v0 10 0 (fun a1 => (yi (yvt [(0, 1)] (ycall n) [.ref a1, .int v1] A)).bind (fun z2 => if z2.1 = 0 then (some (some (.int (-1 : Int32)), z2.2)) else (if v2 < (1 : Int32) then (some (some (.int (-1 : Int32)), z2.2)) else (if v2 ≤ (999 : Int32) then (ygR z2.2 v0 10 1 (fun a3 => ygR z2.2 v0 10 0 (fun a4 => (yv (yvt [(0, 0)] (ycall n) [.ref a3, .ref a4] z2.2)).bind (fun A5 => yb_X11_degree (ycall n) (38, [some (.ref v0), some (.int v1), some (.int v2), some (.int (0 : Int32))], [], A5))))) else (some (some (.int (-1 : Int32)), z2.2)))))) := (ybig_blk 19 _).trans (z_aload_n cd_X11_degree_0 (j := 0) rfl rfl (p := 1) rfl (zgo rfl (z_getR cd_X11_degree_1 fd_X11_12 (p := 4) rfl (fun _ => (zgo rfl (z_iload_n cd_X11_degree_4 (j := 1) rfl rfl (p := 5) rfl (zgo rfl (z_cv1 cd_X11_degree_5 (zv (key := 204) (by decide)) cl_X11_c204 rfl rfl rfl rfl (p := 8) rfl (fun _ => (zgo rfl (z_if_eq cd_X11_degree_8 (p := 23) rfl (p2 := 11) rfl (zgo rfl (z_iconst cd_X11_degree_23 ki_m1 (p := 24) rfl (zgo rfl (z_iret cd_X11_degree_24 rfl)))) (zgo rfl (z_iload_n cd_X11_degree_11 (j := 2) rfl rfl (p := 12) rfl (zgo rfl (z_iconst cd_X11_degree_12 ki_1 (p := 13) rfl (zgo rfl (z_ic_lt cd_X11_degree_13 (p := 23) rfl (p2 := 16) rfl (zgo rfl (z_iconst cd_X11_degree_23 ki_m1 (p := 24) rfl (zgo rfl (z_iret cd_X11_degree_24 rfl)))) (zgo rfl (z_iload_n cd_X11_degree_16 (j := 2) rfl rfl (p := 17) rfl (zgo rfl (z_sipush cd_X11_degree_17 ks_999 (p := 20) rfl (zgo rfl (z_ic_le cd_X11_degree_20 (p := 25) rfl (p2 := 23) rfl (zgo rfl (z_aload_n cd_X11_degree_25 (j := 0) rfl rfl (p := 26) rfl (zgo rfl (z_getR cd_X11_degree_26 fd_X11_16 (p := 29) rfl (fun _ => (zgo rfl (z_aload_n cd_X11_degree_29 (j := 0) rfl rfl (p := 30) rfl (zgo rfl (z_getR cd_X11_degree_30 fd_X11_12 (p := 33) rfl (fun _ => (zgo rfl (z_cv0 cd_X11_degree_33 (zv (key := 171) (by decide)) cl_X11_c171 rfl rfl rfl rfl (p := 36) rfl (fun _ => (zgo rfl (z_iconst cd_X11_degree_36 ki_0 (p := 37) rfl (zgo rfl (z_istore_n cd_X11_degree_37 (j := 3) rfl rfl (p := 38) rfl (zcut (p := 38) rfl rfl)))))))))))))))))) (zgo rfl (z_iconst cd_X11_degree_23 ki_m1 (p := 24) rfl (zgo rfl (z_iret cd_X11_degree_24 rfl)))))))))))))))))))))))))))
theorem bk_X11_degree_38 (C : yC) (A : yM) (v0 : Nat) (v1 : Int32) (v2 : Int32) (v3 : Int32) : yb_X11_degree C (38, [some (.ref v0), some (.int v1), some (.int v2), some (.int v3)], [], A) = if (60 : Int32) < v3 then (some (some (.int (-4 : Int32)), A)) else (ygR A v0 10 1 (fun a1 => (yi (yvt [(0, 16)] C [.ref a1, .int v1] A)).bind (fun z2 => if z2.1 < v2 then (ygR z2.2 v0 10 1 (fun a3 => (yv (yvt [(0, 10)] C [.ref a3, .int (1 : Int32)] z2.2)).bind (fun A4 => yb_X11_degree C (38, [some (.ref v0), some (.int v1), some (.int v2), some (.int (v3 + (1 : Int32)))], [], A4)))) else (some (some (.int v3), z2.2))))) := (ybig_blk 16 _).trans (z_iload_n cd_X11_degree_38 (j := 3) rfl rfl (p := 39) rfl (zgo rfl (z_bipush cd_X11_degree_39 kb_60 (p := 41) rfl (zgo rfl (z_ic_gt cd_X11_degree_41 (p := 72) rfl (p2 := 44) rfl (zgo rfl (z_bipush cd_X11_degree_72 kb_m4 (p := 74) rfl (zgo rfl (z_iret cd_X11_degree_74 rfl)))) (zgo rfl (z_aload_n cd_X11_degree_44 (j := 0) rfl rfl (p := 45) rfl (zgo rfl (z_getR cd_X11_degree_45 fd_X11_16 (p := 48) rfl (fun _ => (zgo rfl (z_iload_n cd_X11_degree_48 (j := 1) rfl rfl (p := 49) rfl (zgo rfl (z_cv1 cd_X11_degree_49 (zv (key := 243) (by decide)) cl_X11_c243 rfl rfl rfl rfl (p := 52) rfl (fun _ => (zgo rfl (z_iload_n cd_X11_degree_52 (j := 2) rfl rfl (p := 53) rfl (zgo rfl (z_ic_lt cd_X11_degree_53 (p := 58) rfl (p2 := 56) rfl (zgo rfl (z_aload_n cd_X11_degree_58 (j := 0) rfl rfl (p := 59) rfl (zgo rfl (z_getR cd_X11_degree_59 fd_X11_16 (p := 62) rfl (fun _ => (zgo rfl (z_iconst cd_X11_degree_62 ki_1 (p := 63) rfl (zgo rfl (z_cv0 cd_X11_degree_63 (zv (key := 465) (by decide)) cl_X11_c465 rfl rfl rfl rfl (p := 66) rfl (fun _ => (zgo rfl (z_iinc cd_X11_degree_66 ki_1 rfl rfl (p := 69) rfl (zgo rfl (z_goto cd_X11_degree_69 (p := 38) rfl (zcut (p := 38) rfl rfl))))))))))))))) (zgo rfl (z_iload_n cd_X11_degree_56 (j := 3) rfl rfl (p := 57) rfl (zgo rfl (z_iret cd_X11_degree_57 rfl)))))))))))))))))))))))
theorem cd_X11_mayBeThoughtOf_0 : ylk m_X11_mayBeThoughtOf.2.2.2.2.1 0 = some (.iload_n 0) := by decide +kernel
theorem cd_X11_mayBeThoughtOf_1 : ylk m_X11_mayBeThoughtOf.2.2.2.2.1 1 = some (.ifCond .lt 13) := by decide +kernel
theorem cd_X11_mayBeThoughtOf_4 : ylk m_X11_mayBeThoughtOf.2.2.2.2.1 4 = some (.iload_n 0) := by decide +kernel
theorem cd_X11_mayBeThoughtOf_5 : ylk m_X11_mayBeThoughtOf.2.2.2.2.1 5 = some (.bipush 60) := by decide +kernel
theorem cd_X11_mayBeThoughtOf_7 : ylk m_X11_mayBeThoughtOf.2.2.2.2.1 7 = some (.if_icmp .gt 7) := by decide +kernel
theorem cd_X11_mayBeThoughtOf_10 : ylk m_X11_mayBeThoughtOf.2.2.2.2.1 10 = some (.iconst 1) := by decide +kernel
theorem cd_X11_mayBeThoughtOf_11 : ylk m_X11_mayBeThoughtOf.2.2.2.2.1 11 = some (.goto 4) := by decide +kernel
theorem cd_X11_mayBeThoughtOf_14 : ylk m_X11_mayBeThoughtOf.2.2.2.2.1 14 = some (.iconst 0) := by decide +kernel
theorem cd_X11_mayBeThoughtOf_15 : ylk m_X11_mayBeThoughtOf.2.2.2.2.1 15 = some (.ireturn) := by decide +kernel
noncomputable abbrev yb_X11_mayBeThoughtOf (C : yC) : ySt → Option (Option Value × yM) := yrn m_X11_mayBeThoughtOf C
theorem en_X11_mayBeThoughtOf (n : Nat) (A : yM) (v0 : Int32) : ycall (n + 1) 85 [.int v0] A = if v0 < 0 then (if (0 : Int32) = 0 ∨ (0 : Int32) = 1 then some (some (.int (0 : Int32)), A) else none) else (if (60 : Int32) < v0 then (if (0 : Int32) = 0 ∨ (0 : Int32) = 1 then some (some (.int (0 : Int32)), A) else none) else (if (1 : Int32) = 0 ∨ (1 : Int32) = 1 then some (some (.int (1 : Int32)), A) else none)) := (ybig_blk 9 _).trans (z_iload_n cd_X11_mayBeThoughtOf_0 (j := 0) rfl rfl (p := 1) rfl (zgo rfl (z_if_lt cd_X11_mayBeThoughtOf_1 (p := 14) rfl (p2 := 4) rfl (zgo rfl (z_iconst cd_X11_mayBeThoughtOf_14 ki_0 (p := 15) rfl (zgo rfl (z_zret cd_X11_mayBeThoughtOf_15 rfl)))) (zgo rfl (z_iload_n cd_X11_mayBeThoughtOf_4 (j := 0) rfl rfl (p := 5) rfl (zgo rfl (z_bipush cd_X11_mayBeThoughtOf_5 kb_60 (p := 7) rfl (zgo rfl (z_ic_gt cd_X11_mayBeThoughtOf_7 (p := 14) rfl (p2 := 10) rfl (zgo rfl (z_iconst cd_X11_mayBeThoughtOf_14 ki_0 (p := 15) rfl (zgo rfl (z_zret cd_X11_mayBeThoughtOf_15 rfl)))) (zgo rfl (z_iconst cd_X11_mayBeThoughtOf_10 ki_1 (p := 11) rfl (zgo rfl (z_goto cd_X11_mayBeThoughtOf_11 (p := 15) rfl (zgo rfl (z_zret cd_X11_mayBeThoughtOf_15 rfl)))))))))))))))
theorem cd_X11_thinkOn_0 : ylk m_X11_thinkOn.2.2.2.2.1 0 = some (.aload_n 0) := by decide +kernel
theorem cd_X11_thinkOn_1 : ylk m_X11_thinkOn.2.2.2.2.1 1 = some (.getfield 16) := by decide +kernel
theorem cd_X11_thinkOn_4 : ylk m_X11_thinkOn.2.2.2.2.1 4 = some (.aload_n 0) := by decide +kernel
theorem cd_X11_thinkOn_5 : ylk m_X11_thinkOn.2.2.2.2.1 5 = some (.getfield 12) := by decide +kernel
theorem cd_X11_thinkOn_8 : ylk m_X11_thinkOn.2.2.2.2.1 8 = some (.invokevirtual 57) := by decide +kernel
theorem cd_X11_thinkOn_11 : ylk m_X11_thinkOn.2.2.2.2.1 11 = some (.aload_n 0) := by decide +kernel
theorem cd_X11_thinkOn_12 : ylk m_X11_thinkOn.2.2.2.2.1 12 = some (.getfield 16) := by decide +kernel
theorem cd_X11_thinkOn_15 : ylk m_X11_thinkOn.2.2.2.2.1 15 = some (.iload_n 1) := by decide +kernel
theorem cd_X11_thinkOn_16 : ylk m_X11_thinkOn.2.2.2.2.1 16 = some (.invokevirtual 155) := by decide +kernel
theorem cd_X11_thinkOn_19 : ylk m_X11_thinkOn.2.2.2.2.1 19 = some (.return_) := by decide +kernel
noncomputable abbrev yb_X11_thinkOn (C : yC) : ySt → Option (Option Value × yM) := yrn m_X11_thinkOn C
theorem en_X11_thinkOn (n : Nat) (A : yM) (v0 : Nat) (v1 : Int32) : ycall (n + 1) 86 [.ref v0, .int v1] A = ygR A v0 10 1 (fun a1 => ygR A v0 10 0 (fun a2 => (yv (yvt [(0, 0)] (ycall n) [.ref a1, .ref a2] A)).bind (fun A3 => ygR A3 v0 10 1 (fun a4 => (yv (yvt [(0, 10)] (ycall n) [.ref a4, .int v1] A3)).bind (fun A5 => some (none, A5)))))) := (ybig_blk 11 _).trans (z_aload_n cd_X11_thinkOn_0 (j := 0) rfl rfl (p := 1) rfl (zgo rfl (z_getR cd_X11_thinkOn_1 fd_X11_16 (p := 4) rfl (fun _ => (zgo rfl (z_aload_n cd_X11_thinkOn_4 (j := 0) rfl rfl (p := 5) rfl (zgo rfl (z_getR cd_X11_thinkOn_5 fd_X11_12 (p := 8) rfl (fun _ => (zgo rfl (z_cv0 cd_X11_thinkOn_8 (zv (key := 171) (by decide)) cl_X11_c171 rfl rfl rfl rfl (p := 11) rfl (fun _ => (zgo rfl (z_aload_n cd_X11_thinkOn_11 (j := 0) rfl rfl (p := 12) rfl (zgo rfl (z_getR cd_X11_thinkOn_12 fd_X11_16 (p := 15) rfl (fun _ => (zgo rfl (z_iload_n cd_X11_thinkOn_15 (j := 1) rfl rfl (p := 16) rfl (zgo rfl (z_cv0 cd_X11_thinkOn_16 (zv (key := 465) (by decide)) cl_X11_c465 rfl rfl rfl rfl (p := 19) rfl (fun _ => (zgo rfl (z_ret cd_X11_thinkOn_19 rfl))))))))))))))))))))))))
theorem cd_X11_next_0 : ylk m_X11_next.2.2.2.2.1 0 = some (.aload_n 0) := by decide +kernel
theorem cd_X11_next_1 : ylk m_X11_next.2.2.2.2.1 1 = some (.getfield 12) := by decide +kernel
theorem cd_X11_next_4 : ylk m_X11_next.2.2.2.2.1 4 = some (.iload_n 1) := by decide +kernel
theorem cd_X11_next_5 : ylk m_X11_next.2.2.2.2.1 5 = some (.invokevirtual 68) := by decide +kernel
theorem cd_X11_next_8 : ylk m_X11_next.2.2.2.2.1 8 = some (.ifCond .ne 5) := by decide +kernel
theorem cd_X11_next_11 : ylk m_X11_next.2.2.2.2.1 11 = some (.iconst (-1)) := by decide +kernel
theorem cd_X11_next_12 : ylk m_X11_next.2.2.2.2.1 12 = some (.ireturn) := by decide +kernel
theorem cd_X11_next_13 : ylk m_X11_next.2.2.2.2.1 13 = some (.aload_n 0) := by decide +kernel
theorem cd_X11_next_14 : ylk m_X11_next.2.2.2.2.1 14 = some (.getfield 12) := by decide +kernel
theorem cd_X11_next_17 : ylk m_X11_next.2.2.2.2.1 17 = some (.iload_n 1) := by decide +kernel
theorem cd_X11_next_18 : ylk m_X11_next.2.2.2.2.1 18 = some (.invokevirtual 78) := by decide +kernel
theorem cd_X11_next_21 : ylk m_X11_next.2.2.2.2.1 21 = some (.ifCond .eq 15) := by decide +kernel
theorem cd_X11_next_24 : ylk m_X11_next.2.2.2.2.1 24 = some (.aload_n 0) := by decide +kernel
theorem cd_X11_next_25 : ylk m_X11_next.2.2.2.2.1 25 = some (.getfield 12) := by decide +kernel
theorem cd_X11_next_28 : ylk m_X11_next.2.2.2.2.1 28 = some (.getfield 158) := by decide +kernel
theorem cd_X11_next_31 : ylk m_X11_next.2.2.2.2.1 31 = some (.bipush 12) := by decide +kernel
theorem cd_X11_next_33 : ylk m_X11_next.2.2.2.2.1 33 = some (.if_icmp .lt 6) := by decide +kernel
theorem cd_X11_next_36 : ylk m_X11_next.2.2.2.2.1 36 = some (.bipush (-4)) := by decide +kernel
theorem cd_X11_next_38 : ylk m_X11_next.2.2.2.2.1 38 = some (.ireturn) := by decide +kernel
theorem cd_X11_next_39 : ylk m_X11_next.2.2.2.2.1 39 = some (.aload_n 0) := by decide +kernel
theorem cd_X11_next_40 : ylk m_X11_next.2.2.2.2.1 40 = some (.getfield 12) := by decide +kernel
theorem cd_X11_next_43 : ylk m_X11_next.2.2.2.2.1 43 = some (.aload_n 0) := by decide +kernel
theorem cd_X11_next_44 : ylk m_X11_next.2.2.2.2.1 44 = some (.getfield 33) := by decide +kernel
theorem cd_X11_next_47 : ylk m_X11_next.2.2.2.2.1 47 = some (.invokevirtual 161) := by decide +kernel
theorem cd_X11_next_50 : ylk m_X11_next.2.2.2.2.1 50 = some (.iconst (-1)) := by decide +kernel
theorem cd_X11_next_51 : ylk m_X11_next.2.2.2.2.1 51 = some (.istore_n 2) := by decide +kernel
theorem cd_X11_next_52 : ylk m_X11_next.2.2.2.2.1 52 = some (.iconst (-1)) := by decide +kernel
theorem cd_X11_next_53 : ylk m_X11_next.2.2.2.2.1 53 = some (.istore_n 3) := by decide +kernel
theorem cd_X11_next_54 : ylk m_X11_next.2.2.2.2.1 54 = some (.iconst 0) := by decide +kernel
theorem cd_X11_next_55 : ylk m_X11_next.2.2.2.2.1 55 = some (.istore 4) := by decide +kernel
theorem cd_X11_next_57 : ylk m_X11_next.2.2.2.2.1 57 = some (.iload 4) := by decide +kernel
theorem cd_X11_next_59 : ylk m_X11_next.2.2.2.2.1 59 = some (.bipush 6) := by decide +kernel
theorem cd_X11_next_61 : ylk m_X11_next.2.2.2.2.1 61 = some (.if_icmp .ge 61) := by decide +kernel
theorem cd_X11_next_64 : ylk m_X11_next.2.2.2.2.1 64 = some (.iconst 0) := by decide +kernel
theorem cd_X11_next_65 : ylk m_X11_next.2.2.2.2.1 65 = some (.istore 5) := by decide +kernel
theorem cd_X11_next_67 : ylk m_X11_next.2.2.2.2.1 67 = some (.iload 5) := by decide +kernel
theorem cd_X11_next_69 : ylk m_X11_next.2.2.2.2.1 69 = some (.bipush 99) := by decide +kernel
theorem cd_X11_next_71 : ylk m_X11_next.2.2.2.2.1 71 = some (.if_icmp .gt 45) := by decide +kernel
theorem cd_X11_next_74 : ylk m_X11_next.2.2.2.2.1 74 = some (.aload_n 0) := by decide +kernel
theorem cd_X11_next_75 : ylk m_X11_next.2.2.2.2.1 75 = some (.getfield 12) := by decide +kernel
theorem cd_X11_next_78 : ylk m_X11_next.2.2.2.2.1 78 = some (.iload_n 1) := by decide +kernel
theorem cd_X11_next_79 : ylk m_X11_next.2.2.2.2.1 79 = some (.iload 4) := by decide +kernel
theorem cd_X11_next_81 : ylk m_X11_next.2.2.2.2.1 81 = some (.iload 5) := by decide +kernel
theorem cd_X11_next_83 : ylk m_X11_next.2.2.2.2.1 83 = some (.aload_n 0) := by decide +kernel
theorem cd_X11_next_84 : ylk m_X11_next.2.2.2.2.1 84 = some (.getfield 33) := by decide +kernel
theorem cd_X11_next_87 : ylk m_X11_next.2.2.2.2.1 87 = some (.invokevirtual 165) := by decide +kernel
theorem cd_X11_next_90 : ylk m_X11_next.2.2.2.2.1 90 = some (.istore 6) := by decide +kernel
theorem cd_X11_next_92 : ylk m_X11_next.2.2.2.2.1 92 = some (.iload 6) := by decide +kernel
theorem cd_X11_next_94 : ylk m_X11_next.2.2.2.2.1 94 = some (.iload_n 3) := by decide +kernel
theorem cd_X11_next_95 : ylk m_X11_next.2.2.2.2.1 95 = some (.if_icmp .le 15) := by decide +kernel
theorem cd_X11_next_98 : ylk m_X11_next.2.2.2.2.1 98 = some (.iload 6) := by decide +kernel
theorem cd_X11_next_100 : ylk m_X11_next.2.2.2.2.1 100 = some (.istore_n 3) := by decide +kernel
theorem cd_X11_next_101 : ylk m_X11_next.2.2.2.2.1 101 = some (.bipush 100) := by decide +kernel
theorem cd_X11_next_103 : ylk m_X11_next.2.2.2.2.1 103 = some (.iload 4) := by decide +kernel
theorem cd_X11_next_105 : ylk m_X11_next.2.2.2.2.1 105 = some (.imul) := by decide +kernel
theorem cd_X11_next_106 : ylk m_X11_next.2.2.2.2.1 106 = some (.iload 5) := by decide +kernel
theorem cd_X11_next_108 : ylk m_X11_next.2.2.2.2.1 108 = some (.iadd) := by decide +kernel
theorem cd_X11_next_109 : ylk m_X11_next.2.2.2.2.1 109 = some (.istore_n 2) := by decide +kernel
theorem cd_X11_next_110 : ylk m_X11_next.2.2.2.2.1 110 = some (.iinc 5 1) := by decide +kernel
theorem cd_X11_next_113 : ylk m_X11_next.2.2.2.2.1 113 = some (.goto (-46)) := by decide +kernel
theorem cd_X11_next_116 : ylk m_X11_next.2.2.2.2.1 116 = some (.iinc 4 1) := by decide +kernel
theorem cd_X11_next_119 : ylk m_X11_next.2.2.2.2.1 119 = some (.goto (-62)) := by decide +kernel
theorem cd_X11_next_122 : ylk m_X11_next.2.2.2.2.1 122 = some (.iload_n 2) := by decide +kernel
theorem cd_X11_next_123 : ylk m_X11_next.2.2.2.2.1 123 = some (.ireturn) := by decide +kernel
noncomputable abbrev yb_X11_next (C : yC) : ySt → Option (Option Value × yM) := yrn m_X11_next C
theorem en_X11_next (n : Nat) (A : yM) (v0 : Nat) (v1 : Int32) : ycall (n + 1) 87 [.ref v0, .int v1] A = ygR A v0 10 0 (fun a1 => (yi (yvt [(0, 1)] (ycall n) [.ref a1, .int v1] A)).bind (fun z2 => if z2.1 = 0 then (some (some (.int (-1 : Int32)), z2.2)) else (ygR z2.2 v0 10 0 (fun a3 => (yi (yvt [(0, 3)] (ycall n) [.ref a3, .int v1] z2.2)).bind (fun z4 => if z4.1 = 0 then (some (some (.int (-4 : Int32)), z4.2)) else (ygR z4.2 v0 10 0 (fun a5 => ygI z4.2 a5 0 5 (fun x6 => if x6 < (12 : Int32) then (ygR z4.2 v0 10 0 (fun a7 => ygR z4.2 v0 10 5 (fun a8 => (yv (yvt [(0, 14)] (ycall n) [.ref a7, .ref a8] z4.2)).bind (fun A9 => yb_X11_next (ycall n) (57, [some (.ref v0), some (.int v1), some (.int (-1 : Int32)), some (.int (-1 : Int32)), some (.int (0 : Int32)), none, none], [], A9))))) else (some (some (.int (-4 : Int32)), z4.2)))))))))) := (ybig_blk 27 _).trans (z_aload_n cd_X11_next_0 (j := 0) rfl rfl (p := 1) rfl (zgo rfl (z_getR cd_X11_next_1 fd_X11_12 (p := 4) rfl (fun _ => (zgo rfl (z_iload_n cd_X11_next_4 (j := 1) rfl rfl (p := 5) rfl (zgo rfl (z_cv1 cd_X11_next_5 (zv (key := 204) (by decide)) cl_X11_c204 rfl rfl rfl rfl (p := 8) rfl (fun _ => (zgo rfl (z_if_ne cd_X11_next_8 (p := 13) rfl (p2 := 11) rfl (zgo rfl (z_iconst cd_X11_next_11 ki_m1 (p := 12) rfl (zgo rfl (z_iret cd_X11_next_12 rfl)))) (zgo rfl (z_aload_n cd_X11_next_13 (j := 0) rfl rfl (p := 14) rfl (zgo rfl (z_getR cd_X11_next_14 fd_X11_12 (p := 17) rfl (fun _ => (zgo rfl (z_iload_n cd_X11_next_17 (j := 1) rfl rfl (p := 18) rfl (zgo rfl (z_cv1 cd_X11_next_18 (zv (key := 234) (by decide)) cl_X11_c234 rfl rfl rfl rfl (p := 21) rfl (fun _ => (zgo rfl (z_if_eq cd_X11_next_21 (p := 36) rfl (p2 := 24) rfl (zgo rfl (z_bipush cd_X11_next_36 kb_m4 (p := 38) rfl (zgo rfl (z_iret cd_X11_next_38 rfl)))) (zgo rfl (z_aload_n cd_X11_next_24 (j := 0) rfl rfl (p := 25) rfl (zgo rfl (z_getR cd_X11_next_25 fd_X11_12 (p := 28) rfl (fun _ => (zgo rfl (z_getI cd_X11_next_28 fd_X11_158 (p := 31) rfl (fun _ => (zgo rfl (z_bipush cd_X11_next_31 kb_12 (p := 33) rfl (zgo rfl (z_ic_lt cd_X11_next_33 (p := 39) rfl (p2 := 36) rfl (zgo rfl (z_aload_n cd_X11_next_39 (j := 0) rfl rfl (p := 40) rfl (zgo rfl (z_getR cd_X11_next_40 fd_X11_12 (p := 43) rfl (fun _ => (zgo rfl (z_aload_n cd_X11_next_43 (j := 0) rfl rfl (p := 44) rfl (zgo rfl (z_getR cd_X11_next_44 fd_X11_33 (p := 47) rfl (fun _ => (zgo rfl (z_cv0 cd_X11_next_47 (zv (key := 483) (by decide)) cl_X11_c483 rfl rfl rfl rfl (p := 50) rfl (fun _ => (zgo rfl (z_iconst cd_X11_next_50 ki_m1 (p := 51) rfl (zgo rfl (z_istore_n cd_X11_next_51 (j := 2) rfl rfl (p := 52) rfl (zgo rfl (z_iconst cd_X11_next_52 ki_m1 (p := 53) rfl (zgo rfl (z_istore_n cd_X11_next_53 (j := 3) rfl rfl (p := 54) rfl (zgo rfl (z_iconst cd_X11_next_54 ki_0 (p := 55) rfl (zgo rfl (z_istore cd_X11_next_55 rfl (p := 57) rfl (zcut (p := 57) rfl rfl)))))))))))))))))))))))))) (zgo rfl (z_bipush cd_X11_next_36 kb_m4 (p := 38) rfl (zgo rfl (z_iret cd_X11_next_38 rfl)))))))))))))))))))))))))))))))))))))))
theorem bk_X11_next_57 (C : yC) (A : yM) (v0 : Nat) (v1 : Int32) (v2 : Int32) (v3 : Int32) (v4 : Int32) : yb_X11_next C (57, [some (.ref v0), some (.int v1), some (.int v2), some (.int v3), some (.int v4), none, none], [], A) = if (6 : Int32) ≤ v4 then (some (some (.int v2), A)) else (yb_X11_next C (67, [some (.ref v0), some (.int v1), some (.int v2), some (.int v3), some (.int v4), some (.int (0 : Int32)), none], [], A)) := (ybig_blk 6 _).trans (z_iload cd_X11_next_57 rfl (p := 59) rfl (zgo rfl (z_bipush cd_X11_next_59 kb_6 (p := 61) rfl (zgo rfl (z_ic_ge cd_X11_next_61 (p := 122) rfl (p2 := 64) rfl (zgo rfl (z_iload_n cd_X11_next_122 (j := 2) rfl rfl (p := 123) rfl (zgo rfl (z_iret cd_X11_next_123 rfl)))) (zgo rfl (z_iconst cd_X11_next_64 ki_0 (p := 65) rfl (zgo rfl (z_istore cd_X11_next_65 rfl (p := 67) rfl (zcut (p := 67) rfl rfl))))))))))
theorem bk_X11_next_67 (C : yC) (A : yM) (v0 : Nat) (v1 : Int32) (v2 : Int32) (v3 : Int32) (v4 : Int32) (v5 : Int32) : yb_X11_next C (67, [some (.ref v0), some (.int v1), some (.int v2), some (.int v3), some (.int v4), some (.int v5), none], [], A) = if (99 : Int32) < v5 then (yb_X11_next C (57, [some (.ref v0), some (.int v1), some (.int v2), some (.int v3), some (.int (v4 + (1 : Int32))), none, none], [], A)) else (ygR A v0 10 0 (fun a1 => ygR A v0 10 5 (fun a2 => (yi (yvt [(0, 17)] C [.ref a1, .int v1, .int v4, .int v5, .ref a2] A)).bind (fun z3 => if z3.1 ≤ v3 then (yb_X11_next C (67, [some (.ref v0), some (.int v1), some (.int v2), some (.int v3), some (.int v4), some (.int (v5 + (1 : Int32))), none], [], z3.2)) else (yb_X11_next C (67, [some (.ref v0), some (.int v1), some (.int (((100 : Int32) * v4) + v5)), some (.int z3.1), some (.int v4), some (.int (v5 + (1 : Int32))), none], [], z3.2)))))) := (ybig_blk 26 _).trans (z_iload cd_X11_next_67 rfl (p := 69) rfl (zgo rfl (z_bipush cd_X11_next_69 kb_99 (p := 71) rfl (zgo rfl (z_ic_gt cd_X11_next_71 (p := 116) rfl (p2 := 74) rfl (zgo rfl (z_iinc cd_X11_next_116 ki_1 rfl rfl (p := 119) rfl (zgo rfl (z_goto cd_X11_next_119 (p := 57) rfl (zcut (p := 57) rfl rfl))))) (zgo rfl (z_aload_n cd_X11_next_74 (j := 0) rfl rfl (p := 75) rfl (zgo rfl (z_getR cd_X11_next_75 fd_X11_12 (p := 78) rfl (fun _ => (zgo rfl (z_iload_n cd_X11_next_78 (j := 1) rfl rfl (p := 79) rfl (zgo rfl (z_iload cd_X11_next_79 rfl (p := 81) rfl (zgo rfl (z_iload cd_X11_next_81 rfl (p := 83) rfl (zgo rfl (z_aload_n cd_X11_next_83 (j := 0) rfl rfl (p := 84) rfl (zgo rfl (z_getR cd_X11_next_84 fd_X11_33 (p := 87) rfl (fun _ => (zgo rfl (z_cv1 cd_X11_next_87 (zv (key := 495) (by decide)) cl_X11_c495 rfl rfl rfl rfl (p := 90) rfl (fun _ => (zgo rfl (z_istore cd_X11_next_90 rfl (p := 92) rfl (zgo rfl (z_iload cd_X11_next_92 rfl (p := 94) rfl (zgo rfl (z_iload_n cd_X11_next_94 (j := 3) rfl rfl (p := 95) rfl (zgo rfl (z_ic_le cd_X11_next_95 (p := 110) rfl (p2 := 98) rfl (zgo rfl (z_iinc cd_X11_next_110 ki_1 rfl rfl (p := 113) rfl (zgo rfl (z_goto cd_X11_next_113 (p := 67) rfl (zcut (p := 67) rfl rfl))))) (zgo rfl (z_iload cd_X11_next_98 rfl (p := 100) rfl (zgo rfl (z_istore_n cd_X11_next_100 (j := 3) rfl rfl (p := 101) rfl (zgo rfl (z_bipush cd_X11_next_101 kb_100 (p := 103) rfl (zgo rfl (z_iload cd_X11_next_103 rfl (p := 105) rfl (zgo rfl (z_imul cd_X11_next_105 (p := 106) rfl (zgo rfl (z_iload cd_X11_next_106 rfl (p := 108) rfl (zgo rfl (z_iadd cd_X11_next_108 (p := 109) rfl (zgo rfl (z_istore_n cd_X11_next_109 (j := 2) rfl rfl (p := 110) rfl (zgo rfl (z_iinc cd_X11_next_110 ki_1 rfl rfl (p := 113) rfl (zgo rfl (z_goto cd_X11_next_113 (p := 67) rfl (zcut (p := 67) rfl rfl)))))))))))))))))))))))))))))))))))))))))))))))))))))
theorem cd_X11_farthest_0 : ylk m_X11_farthest.2.2.2.2.1 0 = some (.iload_n 1) := by decide +kernel
theorem cd_X11_farthest_1 : ylk m_X11_farthest.2.2.2.2.1 1 = some (.ifCond .lt 18) := by decide +kernel
theorem cd_X11_farthest_4 : ylk m_X11_farthest.2.2.2.2.1 4 = some (.iload_n 1) := by decide +kernel
theorem cd_X11_farthest_5 : ylk m_X11_farthest.2.2.2.2.1 5 = some (.bipush 6) := by decide +kernel
theorem cd_X11_farthest_7 : ylk m_X11_farthest.2.2.2.2.1 7 = some (.if_icmp .ge 12) := by decide +kernel
theorem cd_X11_farthest_10 : ylk m_X11_farthest.2.2.2.2.1 10 = some (.iload_n 2) := by decide +kernel
theorem cd_X11_farthest_11 : ylk m_X11_farthest.2.2.2.2.1 11 = some (.ifCond .lt 8) := by decide +kernel
theorem cd_X11_farthest_14 : ylk m_X11_farthest.2.2.2.2.1 14 = some (.iload_n 2) := by decide +kernel
theorem cd_X11_farthest_15 : ylk m_X11_farthest.2.2.2.2.1 15 = some (.iconst 1) := by decide +kernel
theorem cd_X11_farthest_16 : ylk m_X11_farthest.2.2.2.2.1 16 = some (.if_icmp .le 5) := by decide +kernel
theorem cd_X11_farthest_19 : ylk m_X11_farthest.2.2.2.2.1 19 = some (.iconst (-1)) := by decide +kernel
theorem cd_X11_farthest_20 : ylk m_X11_farthest.2.2.2.2.1 20 = some (.ireturn) := by decide +kernel
theorem cd_X11_farthest_21 : ylk m_X11_farthest.2.2.2.2.1 21 = some (.iconst 0) := by decide +kernel
theorem cd_X11_farthest_22 : ylk m_X11_farthest.2.2.2.2.1 22 = some (.istore_n 3) := by decide +kernel
theorem cd_X11_farthest_23 : ylk m_X11_farthest.2.2.2.2.1 23 = some (.iconst (-1)) := by decide +kernel
theorem cd_X11_farthest_24 : ylk m_X11_farthest.2.2.2.2.1 24 = some (.istore 4) := by decide +kernel
theorem cd_X11_farthest_26 : ylk m_X11_farthest.2.2.2.2.1 26 = some (.iconst 0) := by decide +kernel
theorem cd_X11_farthest_27 : ylk m_X11_farthest.2.2.2.2.1 27 = some (.istore 5) := by decide +kernel
theorem cd_X11_farthest_29 : ylk m_X11_farthest.2.2.2.2.1 29 = some (.iload 5) := by decide +kernel
theorem cd_X11_farthest_31 : ylk m_X11_farthest.2.2.2.2.1 31 = some (.bipush 99) := by decide +kernel
theorem cd_X11_farthest_33 : ylk m_X11_farthest.2.2.2.2.1 33 = some (.if_icmp .gt 36) := by decide +kernel
theorem cd_X11_farthest_36 : ylk m_X11_farthest.2.2.2.2.1 36 = some (.aload_n 0) := by decide +kernel
theorem cd_X11_farthest_37 : ylk m_X11_farthest.2.2.2.2.1 37 = some (.getfield 12) := by decide +kernel
theorem cd_X11_farthest_40 : ylk m_X11_farthest.2.2.2.2.1 40 = some (.iload_n 1) := by decide +kernel
theorem cd_X11_farthest_41 : ylk m_X11_farthest.2.2.2.2.1 41 = some (.iload 5) := by decide +kernel
theorem cd_X11_farthest_43 : ylk m_X11_farthest.2.2.2.2.1 43 = some (.iconst (-1)) := by decide +kernel
theorem cd_X11_farthest_44 : ylk m_X11_farthest.2.2.2.2.1 44 = some (.invokevirtual 169) := by decide +kernel
theorem cd_X11_farthest_47 : ylk m_X11_farthest.2.2.2.2.1 47 = some (.istore 6) := by decide +kernel
theorem cd_X11_farthest_49 : ylk m_X11_farthest.2.2.2.2.1 49 = some (.iload 6) := by decide +kernel
theorem cd_X11_farthest_51 : ylk m_X11_farthest.2.2.2.2.1 51 = some (.iload 4) := by decide +kernel
theorem cd_X11_farthest_53 : ylk m_X11_farthest.2.2.2.2.1 53 = some (.if_icmp .le 10) := by decide +kernel
theorem cd_X11_farthest_56 : ylk m_X11_farthest.2.2.2.2.1 56 = some (.iload 6) := by decide +kernel
theorem cd_X11_farthest_58 : ylk m_X11_farthest.2.2.2.2.1 58 = some (.istore 4) := by decide +kernel
theorem cd_X11_farthest_60 : ylk m_X11_farthest.2.2.2.2.1 60 = some (.iload 5) := by decide +kernel
theorem cd_X11_farthest_62 : ylk m_X11_farthest.2.2.2.2.1 62 = some (.istore_n 3) := by decide +kernel
theorem cd_X11_farthest_63 : ylk m_X11_farthest.2.2.2.2.1 63 = some (.iinc 5 1) := by decide +kernel
theorem cd_X11_farthest_66 : ylk m_X11_farthest.2.2.2.2.1 66 = some (.goto (-37)) := by decide +kernel
theorem cd_X11_farthest_69 : ylk m_X11_farthest.2.2.2.2.1 69 = some (.iload_n 2) := by decide +kernel
theorem cd_X11_farthest_70 : ylk m_X11_farthest.2.2.2.2.1 70 = some (.ifCond .ne 7) := by decide +kernel
theorem cd_X11_farthest_73 : ylk m_X11_farthest.2.2.2.2.1 73 = some (.iload_n 3) := by decide +kernel
theorem cd_X11_farthest_74 : ylk m_X11_farthest.2.2.2.2.1 74 = some (.goto 5) := by decide +kernel
theorem cd_X11_farthest_77 : ylk m_X11_farthest.2.2.2.2.1 77 = some (.iload 4) := by decide +kernel
theorem cd_X11_farthest_79 : ylk m_X11_farthest.2.2.2.2.1 79 = some (.ireturn) := by decide +kernel
noncomputable abbrev yb_X11_farthest (C : yC) : ySt → Option (Option Value × yM) := yrn m_X11_farthest C
theorem en_X11_farthest (n : Nat) (A : yM) (v0 : Nat) (v1 : Int32) (v2 : Int32) : ycall (n + 1) 88 [.ref v0, .int v1, .int v2] A = if v1 < 0 then (some (some (.int (-1 : Int32)), A)) else (if (6 : Int32) ≤ v1 then (some (some (.int (-1 : Int32)), A)) else (if v2 < 0 then (some (some (.int (-1 : Int32)), A)) else (if v2 ≤ (1 : Int32) then (yb_X11_farthest (ycall n) (29, [some (.ref v0), some (.int v1), some (.int v2), some (.int (0 : Int32)), some (.int (-1 : Int32)), some (.int (0 : Int32)), none], [], A)) else (some (some (.int (-1 : Int32)), A))))) := (ybig_blk 17 _).trans (z_iload_n cd_X11_farthest_0 (j := 1) rfl rfl (p := 1) rfl (zgo rfl (z_if_lt cd_X11_farthest_1 (p := 19) rfl (p2 := 4) rfl (zgo rfl (z_iconst cd_X11_farthest_19 ki_m1 (p := 20) rfl (zgo rfl (z_iret cd_X11_farthest_20 rfl)))) (zgo rfl (z_iload_n cd_X11_farthest_4 (j := 1) rfl rfl (p := 5) rfl (zgo rfl (z_bipush cd_X11_farthest_5 kb_6 (p := 7) rfl (zgo rfl (z_ic_ge cd_X11_farthest_7 (p := 19) rfl (p2 := 10) rfl (zgo rfl (z_iconst cd_X11_farthest_19 ki_m1 (p := 20) rfl (zgo rfl (z_iret cd_X11_farthest_20 rfl)))) (zgo rfl (z_iload_n cd_X11_farthest_10 (j := 2) rfl rfl (p := 11) rfl (zgo rfl (z_if_lt cd_X11_farthest_11 (p := 19) rfl (p2 := 14) rfl (zgo rfl (z_iconst cd_X11_farthest_19 ki_m1 (p := 20) rfl (zgo rfl (z_iret cd_X11_farthest_20 rfl)))) (zgo rfl (z_iload_n cd_X11_farthest_14 (j := 2) rfl rfl (p := 15) rfl (zgo rfl (z_iconst cd_X11_farthest_15 ki_1 (p := 16) rfl (zgo rfl (z_ic_le cd_X11_farthest_16 (p := 21) rfl (p2 := 19) rfl (zgo rfl (z_iconst cd_X11_farthest_21 ki_0 (p := 22) rfl (zgo rfl (z_istore_n cd_X11_farthest_22 (j := 3) rfl rfl (p := 23) rfl (zgo rfl (z_iconst cd_X11_farthest_23 ki_m1 (p := 24) rfl (zgo rfl (z_istore cd_X11_farthest_24 rfl (p := 26) rfl (zgo rfl (z_iconst cd_X11_farthest_26 ki_0 (p := 27) rfl (zgo rfl (z_istore cd_X11_farthest_27 rfl (p := 29) rfl (zcut (p := 29) rfl rfl))))))))))))) (zgo rfl (z_iconst cd_X11_farthest_19 ki_m1 (p := 20) rfl (zgo rfl (z_iret cd_X11_farthest_20 rfl)))))))))))))))))))))))
theorem bk_X11_farthest_29 (C : yC) (A : yM) (v0 : Nat) (v1 : Int32) (v2 : Int32) (v3 : Int32) (v4 : Int32) (v5 : Int32) : yb_X11_farthest C (29, [some (.ref v0), some (.int v1), some (.int v2), some (.int v3), some (.int v4), some (.int v5), none], [], A) = if (99 : Int32) < v5 then (if v2 = 0 then (some (some (.int v3), A)) else (some (some (.int v4), A))) else (ygR A v0 10 0 (fun a1 => (yi (yvt [(0, 12)] C [.ref a1, .int v1, .int v5, .int (-1 : Int32)] A)).bind (fun z2 => if z2.1 ≤ v4 then (yb_X11_farthest C (29, [some (.ref v0), some (.int v1), some (.int v2), some (.int v3), some (.int v4), some (.int (v5 + (1 : Int32))), none], [], z2.2)) else (yb_X11_farthest C (29, [some (.ref v0), some (.int v1), some (.int v2), some (.int v5), some (.int z2.1), some (.int (v5 + (1 : Int32))), none], [], z2.2))))) := (ybig_blk 20 _).trans (z_iload cd_X11_farthest_29 rfl (p := 31) rfl (zgo rfl (z_bipush cd_X11_farthest_31 kb_99 (p := 33) rfl (zgo rfl (z_ic_gt cd_X11_farthest_33 (p := 69) rfl (p2 := 36) rfl (zgo rfl (z_iload_n cd_X11_farthest_69 (j := 2) rfl rfl (p := 70) rfl (zgo rfl (z_if_ne cd_X11_farthest_70 (p := 77) rfl (p2 := 73) rfl (zgo rfl (z_iload_n cd_X11_farthest_73 (j := 3) rfl rfl (p := 74) rfl (zgo rfl (z_goto cd_X11_farthest_74 (p := 79) rfl (zgo rfl (z_iret cd_X11_farthest_79 rfl)))))) (zgo rfl (z_iload cd_X11_farthest_77 rfl (p := 79) rfl (zgo rfl (z_iret cd_X11_farthest_79 rfl)))))))) (zgo rfl (z_aload_n cd_X11_farthest_36 (j := 0) rfl rfl (p := 37) rfl (zgo rfl (z_getR cd_X11_farthest_37 fd_X11_12 (p := 40) rfl (fun _ => (zgo rfl (z_iload_n cd_X11_farthest_40 (j := 1) rfl rfl (p := 41) rfl (zgo rfl (z_iload cd_X11_farthest_41 rfl (p := 43) rfl (zgo rfl (z_iconst cd_X11_farthest_43 ki_m1 (p := 44) rfl (zgo rfl (z_cv1 cd_X11_farthest_44 (zv (key := 507) (by decide)) cl_X11_c507 rfl rfl rfl rfl (p := 47) rfl (fun _ => (zgo rfl (z_istore cd_X11_farthest_47 rfl (p := 49) rfl (zgo rfl (z_iload cd_X11_farthest_49 rfl (p := 51) rfl (zgo rfl (z_iload cd_X11_farthest_51 rfl (p := 53) rfl (zgo rfl (z_ic_le cd_X11_farthest_53 (p := 63) rfl (p2 := 56) rfl (zgo rfl (z_iinc cd_X11_farthest_63 ki_1 rfl rfl (p := 66) rfl (zgo rfl (z_goto cd_X11_farthest_66 (p := 29) rfl (zcut (p := 29) rfl rfl))))) (zgo rfl (z_iload cd_X11_farthest_56 rfl (p := 58) rfl (zgo rfl (z_istore cd_X11_farthest_58 rfl (p := 60) rfl (zgo rfl (z_iload cd_X11_farthest_60 rfl (p := 62) rfl (zgo rfl (z_istore_n cd_X11_farthest_62 (j := 3) rfl rfl (p := 63) rfl (zgo rfl (z_iinc cd_X11_farthest_63 ki_1 rfl rfl (p := 66) rfl (zgo rfl (z_goto cd_X11_farthest_66 (p := 29) rfl (zcut (p := 29) rfl rfl))))))))))))))))))))))))))))))))))))))))
theorem cd_X11_cite_0 : ylk m_X11_cite.2.2.2.2.1 0 = some (.aload_n 0) := by decide +kernel
theorem cd_X11_cite_1 : ylk m_X11_cite.2.2.2.2.1 1 = some (.iload_n 1) := by decide +kernel
theorem cd_X11_cite_2 : ylk m_X11_cite.2.2.2.2.1 2 = some (.iload_n 2) := by decide +kernel
theorem cd_X11_cite_3 : ylk m_X11_cite.2.2.2.2.1 3 = some (.invokevirtual 173) := by decide +kernel
theorem cd_X11_cite_6 : ylk m_X11_cite.2.2.2.2.1 6 = some (.ifCond .ne 5) := by decide +kernel
theorem cd_X11_cite_9 : ylk m_X11_cite.2.2.2.2.1 9 = some (.iconst (-1)) := by decide +kernel
theorem cd_X11_cite_10 : ylk m_X11_cite.2.2.2.2.1 10 = some (.ireturn) := by decide +kernel
theorem cd_X11_cite_11 : ylk m_X11_cite.2.2.2.2.1 11 = some (.aload_n 0) := by decide +kernel
theorem cd_X11_cite_12 : ylk m_X11_cite.2.2.2.2.1 12 = some (.getfield 12) := by decide +kernel
theorem cd_X11_cite_15 : ylk m_X11_cite.2.2.2.2.1 15 = some (.iload_n 1) := by decide +kernel
theorem cd_X11_cite_16 : ylk m_X11_cite.2.2.2.2.1 16 = some (.invokevirtual 78) := by decide +kernel
theorem cd_X11_cite_19 : ylk m_X11_cite.2.2.2.2.1 19 = some (.ifCond .ne 6) := by decide +kernel
theorem cd_X11_cite_22 : ylk m_X11_cite.2.2.2.2.1 22 = some (.bipush (-3)) := by decide +kernel
theorem cd_X11_cite_24 : ylk m_X11_cite.2.2.2.2.1 24 = some (.ireturn) := by decide +kernel
theorem cd_X11_cite_25 : ylk m_X11_cite.2.2.2.2.1 25 = some (.aload_n 0) := by decide +kernel
theorem cd_X11_cite_26 : ylk m_X11_cite.2.2.2.2.1 26 = some (.getfield 12) := by decide +kernel
theorem cd_X11_cite_29 : ylk m_X11_cite.2.2.2.2.1 29 = some (.getfield 158) := by decide +kernel
theorem cd_X11_cite_32 : ylk m_X11_cite.2.2.2.2.1 32 = some (.bipush 12) := by decide +kernel
theorem cd_X11_cite_34 : ylk m_X11_cite.2.2.2.2.1 34 = some (.if_icmp .lt 6) := by decide +kernel
theorem cd_X11_cite_37 : ylk m_X11_cite.2.2.2.2.1 37 = some (.bipush (-4)) := by decide +kernel
theorem cd_X11_cite_39 : ylk m_X11_cite.2.2.2.2.1 39 = some (.ireturn) := by decide +kernel
theorem cd_X11_cite_40 : ylk m_X11_cite.2.2.2.2.1 40 = some (.bipush (-4)) := by decide +kernel
theorem cd_X11_cite_42 : ylk m_X11_cite.2.2.2.2.1 42 = some (.istore_n 3) := by decide +kernel
theorem cd_X11_cite_43 : ylk m_X11_cite.2.2.2.2.1 43 = some (.iconst (-1)) := by decide +kernel
theorem cd_X11_cite_44 : ylk m_X11_cite.2.2.2.2.1 44 = some (.istore 4) := by decide +kernel
theorem cd_X11_cite_46 : ylk m_X11_cite.2.2.2.2.1 46 = some (.iconst 0) := by decide +kernel
theorem cd_X11_cite_47 : ylk m_X11_cite.2.2.2.2.1 47 = some (.istore 5) := by decide +kernel
theorem cd_X11_cite_49 : ylk m_X11_cite.2.2.2.2.1 49 = some (.iload 5) := by decide +kernel
theorem cd_X11_cite_51 : ylk m_X11_cite.2.2.2.2.1 51 = some (.aload_n 0) := by decide +kernel
theorem cd_X11_cite_52 : ylk m_X11_cite.2.2.2.2.1 52 = some (.getfield 12) := by decide +kernel
theorem cd_X11_cite_55 : ylk m_X11_cite.2.2.2.2.1 55 = some (.getfield 158) := by decide +kernel
theorem cd_X11_cite_58 : ylk m_X11_cite.2.2.2.2.1 58 = some (.if_icmp .ge 57) := by decide +kernel
theorem cd_X11_cite_61 : ylk m_X11_cite.2.2.2.2.1 61 = some (.aload_n 0) := by decide +kernel
theorem cd_X11_cite_62 : ylk m_X11_cite.2.2.2.2.1 62 = some (.getfield 16) := by decide +kernel
theorem cd_X11_cite_65 : ylk m_X11_cite.2.2.2.2.1 65 = some (.aload_n 0) := by decide +kernel
theorem cd_X11_cite_66 : ylk m_X11_cite.2.2.2.2.1 66 = some (.getfield 12) := by decide +kernel
theorem cd_X11_cite_69 : ylk m_X11_cite.2.2.2.2.1 69 = some (.invokevirtual 57) := by decide +kernel
theorem cd_X11_cite_72 : ylk m_X11_cite.2.2.2.2.1 72 = some (.aload_n 0) := by decide +kernel
theorem cd_X11_cite_73 : ylk m_X11_cite.2.2.2.2.1 73 = some (.getfield 16) := by decide +kernel
theorem cd_X11_cite_76 : ylk m_X11_cite.2.2.2.2.1 76 = some (.iload_n 1) := by decide +kernel
theorem cd_X11_cite_77 : ylk m_X11_cite.2.2.2.2.1 77 = some (.iconst 0) := by decide +kernel
theorem cd_X11_cite_78 : ylk m_X11_cite.2.2.2.2.1 78 = some (.iconst 0) := by decide +kernel
theorem cd_X11_cite_79 : ylk m_X11_cite.2.2.2.2.1 79 = some (.iload 5) := by decide +kernel
theorem cd_X11_cite_81 : ylk m_X11_cite.2.2.2.2.1 81 = some (.invokevirtual 128) := by decide +kernel
theorem cd_X11_cite_84 : ylk m_X11_cite.2.2.2.2.1 84 = some (.pop) := by decide +kernel
theorem cd_X11_cite_85 : ylk m_X11_cite.2.2.2.2.1 85 = some (.aload_n 0) := by decide +kernel
theorem cd_X11_cite_86 : ylk m_X11_cite.2.2.2.2.1 86 = some (.getfield 16) := by decide +kernel
theorem cd_X11_cite_89 : ylk m_X11_cite.2.2.2.2.1 89 = some (.iload_n 2) := by decide +kernel
theorem cd_X11_cite_90 : ylk m_X11_cite.2.2.2.2.1 90 = some (.invokevirtual 81) := by decide +kernel
theorem cd_X11_cite_93 : ylk m_X11_cite.2.2.2.2.1 93 = some (.istore 6) := by decide +kernel
theorem cd_X11_cite_95 : ylk m_X11_cite.2.2.2.2.1 95 = some (.iload 6) := by decide +kernel
theorem cd_X11_cite_97 : ylk m_X11_cite.2.2.2.2.1 97 = some (.iload 4) := by decide +kernel
theorem cd_X11_cite_99 : ylk m_X11_cite.2.2.2.2.1 99 = some (.if_icmp .le 10) := by decide +kernel
theorem cd_X11_cite_102 : ylk m_X11_cite.2.2.2.2.1 102 = some (.iload 6) := by decide +kernel
theorem cd_X11_cite_104 : ylk m_X11_cite.2.2.2.2.1 104 = some (.istore 4) := by decide +kernel
theorem cd_X11_cite_106 : ylk m_X11_cite.2.2.2.2.1 106 = some (.iload 5) := by decide +kernel
theorem cd_X11_cite_108 : ylk m_X11_cite.2.2.2.2.1 108 = some (.istore_n 3) := by decide +kernel
theorem cd_X11_cite_109 : ylk m_X11_cite.2.2.2.2.1 109 = some (.iinc 5 1) := by decide +kernel
theorem cd_X11_cite_112 : ylk m_X11_cite.2.2.2.2.1 112 = some (.goto (-63)) := by decide +kernel
theorem cd_X11_cite_115 : ylk m_X11_cite.2.2.2.2.1 115 = some (.iload_n 3) := by decide +kernel
theorem cd_X11_cite_116 : ylk m_X11_cite.2.2.2.2.1 116 = some (.ireturn) := by decide +kernel
noncomputable abbrev yb_X11_cite (C : yC) : ySt → Option (Option Value × yM) := yrn m_X11_cite C
theorem en_X11_cite (n : Nat) (A : yM) (v0 : Nat) (v1 : Int32) (v2 : Int32) : ycall (n + 1) 89 [.ref v0, .int v1, .int v2] A = (yi (yvt [(10, 91)] (ycall n) [.ref v0, .int v1, .int v2] A)).bind (fun z1 => if z1.1 = 0 then (some (some (.int (-1 : Int32)), z1.2)) else (ygR z1.2 v0 10 0 (fun a2 => (yi (yvt [(0, 3)] (ycall n) [.ref a2, .int v1] z1.2)).bind (fun z3 => if z3.1 = 0 then (some (some (.int (-3 : Int32)), z3.2)) else (ygR z3.2 v0 10 0 (fun a4 => ygI z3.2 a4 0 5 (fun x5 => if x5 < (12 : Int32) then (yb_X11_cite (ycall n) (49, [some (.ref v0), some (.int v1), some (.int v2), some (.int (-4 : Int32)), some (.int (-1 : Int32)), some (.int (0 : Int32)), none], [], z3.2)) else (some (some (.int (-4 : Int32)), z3.2))))))))) := (ybig_blk 22 _).trans (z_aload_n cd_X11_cite_0 (j := 0) rfl rfl (p := 1) rfl (zgo rfl (z_iload_n cd_X11_cite_1 (j := 1) rfl rfl (p := 2) rfl (zgo rfl (z_iload_n cd_X11_cite_2 (j := 2) rfl rfl (p := 3) rfl (zgo rfl (z_cv1 cd_X11_cite_3 (zv (key := 519) (by decide)) cl_X11_c519 rfl rfl rfl rfl (p := 6) rfl (fun _ => (zgo rfl (z_if_ne cd_X11_cite_6 (p := 11) rfl (p2 := 9) rfl (zgo rfl (z_iconst cd_X11_cite_9 ki_m1 (p := 10) rfl (zgo rfl (z_iret cd_X11_cite_10 rfl)))) (zgo rfl (z_aload_n cd_X11_cite_11 (j := 0) rfl rfl (p := 12) rfl (zgo rfl (z_getR cd_X11_cite_12 fd_X11_12 (p := 15) rfl (fun _ => (zgo rfl (z_iload_n cd_X11_cite_15 (j := 1) rfl rfl (p := 16) rfl (zgo rfl (z_cv1 cd_X11_cite_16 (zv (key := 234) (by decide)) cl_X11_c234 rfl rfl rfl rfl (p := 19) rfl (fun _ => (zgo rfl (z_if_ne cd_X11_cite_19 (p := 25) rfl (p2 := 22) rfl (zgo rfl (z_bipush cd_X11_cite_22 kb_m3 (p := 24) rfl (zgo rfl (z_iret cd_X11_cite_24 rfl)))) (zgo rfl (z_aload_n cd_X11_cite_25 (j := 0) rfl rfl (p := 26) rfl (zgo rfl (z_getR cd_X11_cite_26 fd_X11_12 (p := 29) rfl (fun _ => (zgo rfl (z_getI cd_X11_cite_29 fd_X11_158 (p := 32) rfl (fun _ => (zgo rfl (z_bipush cd_X11_cite_32 kb_12 (p := 34) rfl (zgo rfl (z_ic_lt cd_X11_cite_34 (p := 40) rfl (p2 := 37) rfl (zgo rfl (z_bipush cd_X11_cite_40 kb_m4 (p := 42) rfl (zgo rfl (z_istore_n cd_X11_cite_42 (j := 3) rfl rfl (p := 43) rfl (zgo rfl (z_iconst cd_X11_cite_43 ki_m1 (p := 44) rfl (zgo rfl (z_istore cd_X11_cite_44 rfl (p := 46) rfl (zgo rfl (z_iconst cd_X11_cite_46 ki_0 (p := 47) rfl (zgo rfl (z_istore cd_X11_cite_47 rfl (p := 49) rfl (zcut (p := 49) rfl rfl))))))))))))) (zgo rfl (z_bipush cd_X11_cite_37 kb_m4 (p := 39) rfl (zgo rfl (z_iret cd_X11_cite_39 rfl))))))))))))))))))))))))))))))))))))))
theorem bk_X11_cite_49 (C : yC) (A : yM) (v0 : Nat) (v1 : Int32) (v2 : Int32) (v3 : Int32) (v4 : Int32) (v5 : Int32) : yb_X11_cite C (49, [some (.ref v0), some (.int v1), some (.int v2), some (.int v3), some (.int v4), some (.int v5), none], [], A) = ygR A v0 10 0 (fun a1 => ygI A a1 0 5 (fun x2 => if x2 ≤ v5 then (some (some (.int v3), A)) else (ygR A v0 10 1 (fun a3 => ygR A v0 10 0 (fun a4 => (yv (yvt [(0, 0)] C [.ref a3, .ref a4] A)).bind (fun A5 => ygR A5 v0 10 1 (fun a6 => (yi (yvt [(0, 6)] C [.ref a6, .int v1, .int (0 : Int32), .int (0 : Int32), .int v5] A5)).bind (fun z7 => ygR z7.2 v0 10 1 (fun a8 => (yi (yvt [(0, 16)] C [.ref a8, .int v2] z7.2)).bind (fun z9 => if z9.1 ≤ v4 then (yb_X11_cite C (49, [some (.ref v0), some (.int v1), some (.int v2), some (.int v3), some (.int v4), some (.int (v5 + (1 : Int32))), none], [], z9.2)) else (yb_X11_cite C (49, [some (.ref v0), some (.int v1), some (.int v2), some (.int v5), some (.int z9.1), some (.int (v5 + (1 : Int32))), none], [], z9.2)))))))))))) := (ybig_blk 33 _).trans (z_iload cd_X11_cite_49 rfl (p := 51) rfl (zgo rfl (z_aload_n cd_X11_cite_51 (j := 0) rfl rfl (p := 52) rfl (zgo rfl (z_getR cd_X11_cite_52 fd_X11_12 (p := 55) rfl (fun _ => (zgo rfl (z_getI cd_X11_cite_55 fd_X11_158 (p := 58) rfl (fun _ => (zgo rfl (z_ic_ge cd_X11_cite_58 (p := 115) rfl (p2 := 61) rfl (zgo rfl (z_iload_n cd_X11_cite_115 (j := 3) rfl rfl (p := 116) rfl (zgo rfl (z_iret cd_X11_cite_116 rfl)))) (zgo rfl (z_aload_n cd_X11_cite_61 (j := 0) rfl rfl (p := 62) rfl (zgo rfl (z_getR cd_X11_cite_62 fd_X11_16 (p := 65) rfl (fun _ => (zgo rfl (z_aload_n cd_X11_cite_65 (j := 0) rfl rfl (p := 66) rfl (zgo rfl (z_getR cd_X11_cite_66 fd_X11_12 (p := 69) rfl (fun _ => (zgo rfl (z_cv0 cd_X11_cite_69 (zv (key := 171) (by decide)) cl_X11_c171 rfl rfl rfl rfl (p := 72) rfl (fun _ => (zgo rfl (z_aload_n cd_X11_cite_72 (j := 0) rfl rfl (p := 73) rfl (zgo rfl (z_getR cd_X11_cite_73 fd_X11_16 (p := 76) rfl (fun _ => (zgo rfl (z_iload_n cd_X11_cite_76 (j := 1) rfl rfl (p := 77) rfl (zgo rfl (z_iconst cd_X11_cite_77 ki_0 (p := 78) rfl (zgo rfl (z_iconst cd_X11_cite_78 ki_0 (p := 79) rfl (zgo rfl (z_iload cd_X11_cite_79 rfl (p := 81) rfl (zgo rfl (z_cv1 cd_X11_cite_81 (zv (key := 384) (by decide)) cl_X11_c384 rfl rfl rfl rfl (p := 84) rfl (fun _ => (zgo rfl (z_pop cd_X11_cite_84 (p := 85) rfl (zgo rfl (z_aload_n cd_X11_cite_85 (j := 0) rfl rfl (p := 86) rfl (zgo rfl (z_getR cd_X11_cite_86 fd_X11_16 (p := 89) rfl (fun _ => (zgo rfl (z_iload_n cd_X11_cite_89 (j := 2) rfl rfl (p := 90) rfl (zgo rfl (z_cv1 cd_X11_cite_90 (zv (key := 243) (by decide)) cl_X11_c243 rfl rfl rfl rfl (p := 93) rfl (fun _ => (zgo rfl (z_istore cd_X11_cite_93 rfl (p := 95) rfl (zgo rfl (z_iload cd_X11_cite_95 rfl (p := 97) rfl (zgo rfl (z_iload cd_X11_cite_97 rfl (p := 99) rfl (zgo rfl (z_ic_le cd_X11_cite_99 (p := 109) rfl (p2 := 102) rfl (zgo rfl (z_iinc cd_X11_cite_109 ki_1 rfl rfl (p := 112) rfl (zgo rfl (z_goto cd_X11_cite_112 (p := 49) rfl (zcut (p := 49) rfl rfl))))) (zgo rfl (z_iload cd_X11_cite_102 rfl (p := 104) rfl (zgo rfl (z_istore cd_X11_cite_104 rfl (p := 106) rfl (zgo rfl (z_iload cd_X11_cite_106 rfl (p := 108) rfl (zgo rfl (z_istore_n cd_X11_cite_108 (j := 3) rfl rfl (p := 109) rfl (zgo rfl (z_iinc cd_X11_cite_109 ki_1 rfl rfl (p := 112) rfl (zgo rfl (z_goto cd_X11_cite_112 (p := 49) rfl (zcut (p := 49) rfl rfl)))))))))))))))))))))))))))))))))))))))))))))))))))))))))))))))))))))))))
theorem cd_X11_correct_0 : ylk m_X11_correct.2.2.2.2.1 0 = some (.aload_n 0) := by decide +kernel
theorem cd_X11_correct_1 : ylk m_X11_correct.2.2.2.2.1 1 = some (.iload_n 1) := by decide +kernel
theorem cd_X11_correct_2 : ylk m_X11_correct.2.2.2.2.1 2 = some (.iload_n 2) := by decide +kernel
theorem cd_X11_correct_3 : ylk m_X11_correct.2.2.2.2.1 3 = some (.invokevirtual 173) := by decide +kernel
theorem cd_X11_correct_6 : ylk m_X11_correct.2.2.2.2.1 6 = some (.ifCond .ne 5) := by decide +kernel
theorem cd_X11_correct_9 : ylk m_X11_correct.2.2.2.2.1 9 = some (.iconst (-1)) := by decide +kernel
theorem cd_X11_correct_10 : ylk m_X11_correct.2.2.2.2.1 10 = some (.ireturn) := by decide +kernel
theorem cd_X11_correct_11 : ylk m_X11_correct.2.2.2.2.1 11 = some (.bipush (-4)) := by decide +kernel
theorem cd_X11_correct_13 : ylk m_X11_correct.2.2.2.2.1 13 = some (.istore_n 3) := by decide +kernel
theorem cd_X11_correct_14 : ylk m_X11_correct.2.2.2.2.1 14 = some (.aload_n 0) := by decide +kernel
theorem cd_X11_correct_15 : ylk m_X11_correct.2.2.2.2.1 15 = some (.getfield 12) := by decide +kernel
theorem cd_X11_correct_18 : ylk m_X11_correct.2.2.2.2.1 18 = some (.iload_n 2) := by decide +kernel
theorem cd_X11_correct_19 : ylk m_X11_correct.2.2.2.2.1 19 = some (.invokevirtual 84) := by decide +kernel
theorem cd_X11_correct_22 : ylk m_X11_correct.2.2.2.2.1 22 = some (.istore 4) := by decide +kernel
theorem cd_X11_correct_24 : ylk m_X11_correct.2.2.2.2.1 24 = some (.iconst 0) := by decide +kernel
theorem cd_X11_correct_25 : ylk m_X11_correct.2.2.2.2.1 25 = some (.istore 5) := by decide +kernel
theorem cd_X11_correct_27 : ylk m_X11_correct.2.2.2.2.1 27 = some (.iload 5) := by decide +kernel
theorem cd_X11_correct_29 : ylk m_X11_correct.2.2.2.2.1 29 = some (.aload_n 0) := by decide +kernel
theorem cd_X11_correct_30 : ylk m_X11_correct.2.2.2.2.1 30 = some (.getfield 12) := by decide +kernel
theorem cd_X11_correct_33 : ylk m_X11_correct.2.2.2.2.1 33 = some (.getfield 158) := by decide +kernel
theorem cd_X11_correct_36 : ylk m_X11_correct.2.2.2.2.1 36 = some (.if_icmp .ge 60) := by decide +kernel
theorem cd_X11_correct_39 : ylk m_X11_correct.2.2.2.2.1 39 = some (.aload_n 0) := by decide +kernel
theorem cd_X11_correct_40 : ylk m_X11_correct.2.2.2.2.1 40 = some (.getfield 16) := by decide +kernel
theorem cd_X11_correct_43 : ylk m_X11_correct.2.2.2.2.1 43 = some (.aload_n 0) := by decide +kernel
theorem cd_X11_correct_44 : ylk m_X11_correct.2.2.2.2.1 44 = some (.getfield 12) := by decide +kernel
theorem cd_X11_correct_47 : ylk m_X11_correct.2.2.2.2.1 47 = some (.invokevirtual 57) := by decide +kernel
theorem cd_X11_correct_50 : ylk m_X11_correct.2.2.2.2.1 50 = some (.aload_n 0) := by decide +kernel
theorem cd_X11_correct_51 : ylk m_X11_correct.2.2.2.2.1 51 = some (.getfield 16) := by decide +kernel
theorem cd_X11_correct_54 : ylk m_X11_correct.2.2.2.2.1 54 = some (.iload_n 1) := by decide +kernel
theorem cd_X11_correct_55 : ylk m_X11_correct.2.2.2.2.1 55 = some (.iload 5) := by decide +kernel
theorem cd_X11_correct_57 : ylk m_X11_correct.2.2.2.2.1 57 = some (.invokevirtual 132) := by decide +kernel
theorem cd_X11_correct_60 : ylk m_X11_correct.2.2.2.2.1 60 = some (.ifCond .ge 6) := by decide +kernel
theorem cd_X11_correct_63 : ylk m_X11_correct.2.2.2.2.1 63 = some (.goto 27) := by decide +kernel
theorem cd_X11_correct_66 : ylk m_X11_correct.2.2.2.2.1 66 = some (.aload_n 0) := by decide +kernel
theorem cd_X11_correct_67 : ylk m_X11_correct.2.2.2.2.1 67 = some (.getfield 16) := by decide +kernel
theorem cd_X11_correct_70 : ylk m_X11_correct.2.2.2.2.1 70 = some (.iload_n 2) := by decide +kernel
theorem cd_X11_correct_71 : ylk m_X11_correct.2.2.2.2.1 71 = some (.invokevirtual 84) := by decide +kernel
theorem cd_X11_correct_74 : ylk m_X11_correct.2.2.2.2.1 74 = some (.istore 6) := by decide +kernel
theorem cd_X11_correct_76 : ylk m_X11_correct.2.2.2.2.1 76 = some (.iload 6) := by decide +kernel
theorem cd_X11_correct_78 : ylk m_X11_correct.2.2.2.2.1 78 = some (.iload 4) := by decide +kernel
theorem cd_X11_correct_80 : ylk m_X11_correct.2.2.2.2.1 80 = some (.if_icmp .ge 10) := by decide +kernel
theorem cd_X11_correct_83 : ylk m_X11_correct.2.2.2.2.1 83 = some (.iload 6) := by decide +kernel
theorem cd_X11_correct_85 : ylk m_X11_correct.2.2.2.2.1 85 = some (.istore 4) := by decide +kernel
theorem cd_X11_correct_87 : ylk m_X11_correct.2.2.2.2.1 87 = some (.iload 5) := by decide +kernel
theorem cd_X11_correct_89 : ylk m_X11_correct.2.2.2.2.1 89 = some (.istore_n 3) := by decide +kernel
theorem cd_X11_correct_90 : ylk m_X11_correct.2.2.2.2.1 90 = some (.iinc 5 1) := by decide +kernel
theorem cd_X11_correct_93 : ylk m_X11_correct.2.2.2.2.1 93 = some (.goto (-66)) := by decide +kernel
theorem cd_X11_correct_96 : ylk m_X11_correct.2.2.2.2.1 96 = some (.iload_n 3) := by decide +kernel
theorem cd_X11_correct_97 : ylk m_X11_correct.2.2.2.2.1 97 = some (.ireturn) := by decide +kernel
noncomputable abbrev yb_X11_correct (C : yC) : ySt → Option (Option Value × yM) := yrn m_X11_correct C
theorem en_X11_correct (n : Nat) (A : yM) (v0 : Nat) (v1 : Int32) (v2 : Int32) : ycall (n + 1) 90 [.ref v0, .int v1, .int v2] A = (yi (yvt [(10, 91)] (ycall n) [.ref v0, .int v1, .int v2] A)).bind (fun z1 => if z1.1 = 0 then (some (some (.int (-1 : Int32)), z1.2)) else (ygR z1.2 v0 10 0 (fun a2 => (yi (yvt [(0, 21)] (ycall n) [.ref a2, .int v2] z1.2)).bind (fun z3 => yb_X11_correct (ycall n) (27, [some (.ref v0), some (.int v1), some (.int v2), some (.int (-4 : Int32)), some (.int z3.1), some (.int (0 : Int32)), none], [], z3.2))))) := (ybig_blk 15 _).trans (z_aload_n cd_X11_correct_0 (j := 0) rfl rfl (p := 1) rfl (zgo rfl (z_iload_n cd_X11_correct_1 (j := 1) rfl rfl (p := 2) rfl (zgo rfl (z_iload_n cd_X11_correct_2 (j := 2) rfl rfl (p := 3) rfl (zgo rfl (z_cv1 cd_X11_correct_3 (zv (key := 519) (by decide)) cl_X11_c519 rfl rfl rfl rfl (p := 6) rfl (fun _ => (zgo rfl (z_if_ne cd_X11_correct_6 (p := 11) rfl (p2 := 9) rfl (zgo rfl (z_iconst cd_X11_correct_9 ki_m1 (p := 10) rfl (zgo rfl (z_iret cd_X11_correct_10 rfl)))) (zgo rfl (z_bipush cd_X11_correct_11 kb_m4 (p := 13) rfl (zgo rfl (z_istore_n cd_X11_correct_13 (j := 3) rfl rfl (p := 14) rfl (zgo rfl (z_aload_n cd_X11_correct_14 (j := 0) rfl rfl (p := 15) rfl (zgo rfl (z_getR cd_X11_correct_15 fd_X11_12 (p := 18) rfl (fun _ => (zgo rfl (z_iload_n cd_X11_correct_18 (j := 2) rfl rfl (p := 19) rfl (zgo rfl (z_cv1 cd_X11_correct_19 (zv (key := 252) (by decide)) cl_X11_c252 rfl rfl rfl rfl (p := 22) rfl (fun _ => (zgo rfl (z_istore cd_X11_correct_22 rfl (p := 24) rfl (zgo rfl (z_iconst cd_X11_correct_24 ki_0 (p := 25) rfl (zgo rfl (z_istore cd_X11_correct_25 rfl (p := 27) rfl (zcut (p := 27) rfl rfl)))))))))))))))))))))))))))))))
theorem bk_X11_correct_27 (C : yC) (A : yM) (v0 : Nat) (v1 : Int32) (v2 : Int32) (v3 : Int32) (v4 : Int32) (v5 : Int32) : yb_X11_correct C (27, [some (.ref v0), some (.int v1), some (.int v2), some (.int v3), some (.int v4), some (.int v5), none], [], A) = ygR A v0 10 0 (fun a1 => ygI A a1 0 5 (fun x2 => if x2 ≤ v5 then (some (some (.int v3), A)) else (ygR A v0 10 1 (fun a3 => ygR A v0 10 0 (fun a4 => (yv (yvt [(0, 0)] C [.ref a3, .ref a4] A)).bind (fun A5 => ygR A5 v0 10 1 (fun a6 => (yi (yvt [(0, 7)] C [.ref a6, .int v1, .int v5] A5)).bind (fun z7 => if 0 ≤ z7.1 then (ygR z7.2 v0 10 1 (fun a8 => (yi (yvt [(0, 21)] C [.ref a8, .int v2] z7.2)).bind (fun z9 => if v4 ≤ z9.1 then (yb_X11_correct C (27, [some (.ref v0), some (.int v1), some (.int v2), some (.int v3), some (.int v4), some (.int (v5 + (1 : Int32))), none], [], z9.2)) else (yb_X11_correct C (27, [some (.ref v0), some (.int v1), some (.int v2), some (.int v5), some (.int z9.1), some (.int (v5 + (1 : Int32))), none], [], z9.2))))) else (yb_X11_correct C (27, [some (.ref v0), some (.int v1), some (.int v2), some (.int v3), some (.int v4), some (.int (v5 + (1 : Int32))), none], [], z7.2)))))))))) := (ybig_blk 31 _).trans (z_iload cd_X11_correct_27 rfl (p := 29) rfl (zgo rfl (z_aload_n cd_X11_correct_29 (j := 0) rfl rfl (p := 30) rfl (zgo rfl (z_getR cd_X11_correct_30 fd_X11_12 (p := 33) rfl (fun _ => (zgo rfl (z_getI cd_X11_correct_33 fd_X11_158 (p := 36) rfl (fun _ => (zgo rfl (z_ic_ge cd_X11_correct_36 (p := 96) rfl (p2 := 39) rfl (zgo rfl (z_iload_n cd_X11_correct_96 (j := 3) rfl rfl (p := 97) rfl (zgo rfl (z_iret cd_X11_correct_97 rfl)))) (zgo rfl (z_aload_n cd_X11_correct_39 (j := 0) rfl rfl (p := 40) rfl (zgo rfl (z_getR cd_X11_correct_40 fd_X11_16 (p := 43) rfl (fun _ => (zgo rfl (z_aload_n cd_X11_correct_43 (j := 0) rfl rfl (p := 44) rfl (zgo rfl (z_getR cd_X11_correct_44 fd_X11_12 (p := 47) rfl (fun _ => (zgo rfl (z_cv0 cd_X11_correct_47 (zv (key := 171) (by decide)) cl_X11_c171 rfl rfl rfl rfl (p := 50) rfl (fun _ => (zgo rfl (z_aload_n cd_X11_correct_50 (j := 0) rfl rfl (p := 51) rfl (zgo rfl (z_getR cd_X11_correct_51 fd_X11_16 (p := 54) rfl (fun _ => (zgo rfl (z_iload_n cd_X11_correct_54 (j := 1) rfl rfl (p := 55) rfl (zgo rfl (z_iload cd_X11_correct_55 rfl (p := 57) rfl (zgo rfl (z_cv1 cd_X11_correct_57 (zv (key := 396) (by decide)) cl_X11_c396 rfl rfl rfl rfl (p := 60) rfl (fun _ => (zgo rfl (z_if_ge cd_X11_correct_60 (p := 66) rfl (p2 := 63) rfl (zgo rfl (z_aload_n cd_X11_correct_66 (j := 0) rfl rfl (p := 67) rfl (zgo rfl (z_getR cd_X11_correct_67 fd_X11_16 (p := 70) rfl (fun _ => (zgo rfl (z_iload_n cd_X11_correct_70 (j := 2) rfl rfl (p := 71) rfl (zgo rfl (z_cv1 cd_X11_correct_71 (zv (key := 252) (by decide)) cl_X11_c252 rfl rfl rfl rfl (p := 74) rfl (fun _ => (zgo rfl (z_istore cd_X11_correct_74 rfl (p := 76) rfl (zgo rfl (z_iload cd_X11_correct_76 rfl (p := 78) rfl (zgo rfl (z_iload cd_X11_correct_78 rfl (p := 80) rfl (zgo rfl (z_ic_ge cd_X11_correct_80 (p := 90) rfl (p2 := 83) rfl (zgo rfl (z_iinc cd_X11_correct_90 ki_1 rfl rfl (p := 93) rfl (zgo rfl (z_goto cd_X11_correct_93 (p := 27) rfl (zcut (p := 27) rfl rfl))))) (zgo rfl (z_iload cd_X11_correct_83 rfl (p := 85) rfl (zgo rfl (z_istore cd_X11_correct_85 rfl (p := 87) rfl (zgo rfl (z_iload cd_X11_correct_87 rfl (p := 89) rfl (zgo rfl (z_istore_n cd_X11_correct_89 (j := 3) rfl rfl (p := 90) rfl (zgo rfl (z_iinc cd_X11_correct_90 ki_1 rfl rfl (p := 93) rfl (zgo rfl (z_goto cd_X11_correct_93 (p := 27) rfl (zcut (p := 27) rfl rfl))))))))))))))))))))))))))))))) (zgo rfl (z_goto cd_X11_correct_63 (p := 90) rfl (zgo rfl (z_iinc cd_X11_correct_90 ki_1 rfl rfl (p := 93) rfl (zgo rfl (z_goto cd_X11_correct_93 (p := 27) rfl (zcut (p := 27) rfl rfl)))))))))))))))))))))))))))))))))))))))))))))
theorem cd_X11_areTwo_0 : ylk m_X11_areTwo.2.2.2.2.1 0 = some (.aload_n 0) := by decide +kernel
theorem cd_X11_areTwo_1 : ylk m_X11_areTwo.2.2.2.2.1 1 = some (.getfield 12) := by decide +kernel
theorem cd_X11_areTwo_4 : ylk m_X11_areTwo.2.2.2.2.1 4 = some (.iload_n 1) := by decide +kernel
theorem cd_X11_areTwo_5 : ylk m_X11_areTwo.2.2.2.2.1 5 = some (.invokevirtual 68) := by decide +kernel
theorem cd_X11_areTwo_8 : ylk m_X11_areTwo.2.2.2.2.1 8 = some (.ifCond .eq 23) := by decide +kernel
theorem cd_X11_areTwo_11 : ylk m_X11_areTwo.2.2.2.2.1 11 = some (.aload_n 0) := by decide +kernel
theorem cd_X11_areTwo_12 : ylk m_X11_areTwo.2.2.2.2.1 12 = some (.getfield 12) := by decide +kernel
theorem cd_X11_areTwo_15 : ylk m_X11_areTwo.2.2.2.2.1 15 = some (.iload_n 2) := by decide +kernel
theorem cd_X11_areTwo_16 : ylk m_X11_areTwo.2.2.2.2.1 16 = some (.invokevirtual 68) := by decide +kernel
theorem cd_X11_areTwo_19 : ylk m_X11_areTwo.2.2.2.2.1 19 = some (.ifCond .eq 12) := by decide +kernel
theorem cd_X11_areTwo_22 : ylk m_X11_areTwo.2.2.2.2.1 22 = some (.iload_n 1) := by decide +kernel
theorem cd_X11_areTwo_23 : ylk m_X11_areTwo.2.2.2.2.1 23 = some (.iload_n 2) := by decide +kernel
theorem cd_X11_areTwo_24 : ylk m_X11_areTwo.2.2.2.2.1 24 = some (.if_icmp .eq 7) := by decide +kernel
theorem cd_X11_areTwo_27 : ylk m_X11_areTwo.2.2.2.2.1 27 = some (.iconst 1) := by decide +kernel
theorem cd_X11_areTwo_28 : ylk m_X11_areTwo.2.2.2.2.1 28 = some (.goto 4) := by decide +kernel
theorem cd_X11_areTwo_31 : ylk m_X11_areTwo.2.2.2.2.1 31 = some (.iconst 0) := by decide +kernel
theorem cd_X11_areTwo_32 : ylk m_X11_areTwo.2.2.2.2.1 32 = some (.ireturn) := by decide +kernel
noncomputable abbrev yb_X11_areTwo (C : yC) : ySt → Option (Option Value × yM) := yrn m_X11_areTwo C
theorem en_X11_areTwo (n : Nat) (A : yM) (v0 : Nat) (v1 : Int32) (v2 : Int32) : ycall (n + 1) 91 [.ref v0, .int v1, .int v2] A = ygR A v0 10 0 (fun a1 => (yi (yvt [(0, 1)] (ycall n) [.ref a1, .int v1] A)).bind (fun z2 => if z2.1 = 0 then (if (0 : Int32) = 0 ∨ (0 : Int32) = 1 then some (some (.int (0 : Int32)), z2.2) else none) else (ygR z2.2 v0 10 0 (fun a3 => (yi (yvt [(0, 1)] (ycall n) [.ref a3, .int v2] z2.2)).bind (fun z4 => if z4.1 = 0 then (if (0 : Int32) = 0 ∨ (0 : Int32) = 1 then some (some (.int (0 : Int32)), z4.2) else none) else (if v1 = v2 then (if (0 : Int32) = 0 ∨ (0 : Int32) = 1 then some (some (.int (0 : Int32)), z4.2) else none) else (if (1 : Int32) = 0 ∨ (1 : Int32) = 1 then some (some (.int (1 : Int32)), z4.2) else none))))))) := (ybig_blk 17 _).trans (z_aload_n cd_X11_areTwo_0 (j := 0) rfl rfl (p := 1) rfl (zgo rfl (z_getR cd_X11_areTwo_1 fd_X11_12 (p := 4) rfl (fun _ => (zgo rfl (z_iload_n cd_X11_areTwo_4 (j := 1) rfl rfl (p := 5) rfl (zgo rfl (z_cv1 cd_X11_areTwo_5 (zv (key := 204) (by decide)) cl_X11_c204 rfl rfl rfl rfl (p := 8) rfl (fun _ => (zgo rfl (z_if_eq cd_X11_areTwo_8 (p := 31) rfl (p2 := 11) rfl (zgo rfl (z_iconst cd_X11_areTwo_31 ki_0 (p := 32) rfl (zgo rfl (z_zret cd_X11_areTwo_32 rfl)))) (zgo rfl (z_aload_n cd_X11_areTwo_11 (j := 0) rfl rfl (p := 12) rfl (zgo rfl (z_getR cd_X11_areTwo_12 fd_X11_12 (p := 15) rfl (fun _ => (zgo rfl (z_iload_n cd_X11_areTwo_15 (j := 2) rfl rfl (p := 16) rfl (zgo rfl (z_cv1 cd_X11_areTwo_16 (zv (key := 204) (by decide)) cl_X11_c204 rfl rfl rfl rfl (p := 19) rfl (fun _ => (zgo rfl (z_if_eq cd_X11_areTwo_19 (p := 31) rfl (p2 := 22) rfl (zgo rfl (z_iconst cd_X11_areTwo_31 ki_0 (p := 32) rfl (zgo rfl (z_zret cd_X11_areTwo_32 rfl)))) (zgo rfl (z_iload_n cd_X11_areTwo_22 (j := 1) rfl rfl (p := 23) rfl (zgo rfl (z_iload_n cd_X11_areTwo_23 (j := 2) rfl rfl (p := 24) rfl (zgo rfl (z_ic_eq cd_X11_areTwo_24 (p := 31) rfl (p2 := 27) rfl (zgo rfl (z_iconst cd_X11_areTwo_31 ki_0 (p := 32) rfl (zgo rfl (z_zret cd_X11_areTwo_32 rfl)))) (zgo rfl (z_iconst cd_X11_areTwo_27 ki_1 (p := 28) rfl (zgo rfl (z_goto cd_X11_areTwo_28 (p := 32) rfl (zgo rfl (z_zret cd_X11_areTwo_32 rfl)))))))))))))))))))))))))))))))))))
theorem cd_X11_cited_0 : ylk m_X11_cited.2.2.2.2.1 0 = some (.aload_n 0) := by decide +kernel
theorem cd_X11_cited_1 : ylk m_X11_cited.2.2.2.2.1 1 = some (.getfield 12) := by decide +kernel
theorem cd_X11_cited_4 : ylk m_X11_cited.2.2.2.2.1 4 = some (.iload_n 1) := by decide +kernel
theorem cd_X11_cited_5 : ylk m_X11_cited.2.2.2.2.1 5 = some (.invokevirtual 90) := by decide +kernel
theorem cd_X11_cited_8 : ylk m_X11_cited.2.2.2.2.1 8 = some (.ifCond .ne 5) := by decide +kernel
theorem cd_X11_cited_11 : ylk m_X11_cited.2.2.2.2.1 11 = some (.iconst (-1)) := by decide +kernel
theorem cd_X11_cited_12 : ylk m_X11_cited.2.2.2.2.1 12 = some (.ireturn) := by decide +kernel
theorem cd_X11_cited_13 : ylk m_X11_cited.2.2.2.2.1 13 = some (.iload_n 2) := by decide +kernel
theorem cd_X11_cited_14 : ylk m_X11_cited.2.2.2.2.1 14 = some (.lookupswitch 44 #[(0, 26), (1, 35)]) := by decide +kernel
theorem cd_X11_cited_40 : ylk m_X11_cited.2.2.2.2.1 40 = some (.aload_n 0) := by decide +kernel
theorem cd_X11_cited_41 : ylk m_X11_cited.2.2.2.2.1 41 = some (.getfield 12) := by decide +kernel
theorem cd_X11_cited_44 : ylk m_X11_cited.2.2.2.2.1 44 = some (.iload_n 1) := by decide +kernel
theorem cd_X11_cited_45 : ylk m_X11_cited.2.2.2.2.1 45 = some (.invokevirtual 177) := by decide +kernel
theorem cd_X11_cited_48 : ylk m_X11_cited.2.2.2.2.1 48 = some (.ireturn) := by decide +kernel
theorem cd_X11_cited_49 : ylk m_X11_cited.2.2.2.2.1 49 = some (.aload_n 0) := by decide +kernel
theorem cd_X11_cited_50 : ylk m_X11_cited.2.2.2.2.1 50 = some (.getfield 12) := by decide +kernel
theorem cd_X11_cited_53 : ylk m_X11_cited.2.2.2.2.1 53 = some (.iload_n 1) := by decide +kernel
theorem cd_X11_cited_54 : ylk m_X11_cited.2.2.2.2.1 54 = some (.invokevirtual 180) := by decide +kernel
theorem cd_X11_cited_57 : ylk m_X11_cited.2.2.2.2.1 57 = some (.ireturn) := by decide +kernel
theorem cd_X11_cited_58 : ylk m_X11_cited.2.2.2.2.1 58 = some (.iconst (-1)) := by decide +kernel
theorem cd_X11_cited_59 : ylk m_X11_cited.2.2.2.2.1 59 = some (.ireturn) := by decide +kernel
noncomputable abbrev yb_X11_cited (C : yC) : ySt → Option (Option Value × yM) := yrn m_X11_cited C
theorem en_X11_cited (n : Nat) (A : yM) (v0 : Nat) (v1 : Int32) (v2 : Int32) : ycall (n + 1) 92 [.ref v0, .int v1, .int v2] A = ygR A v0 10 0 (fun a1 => (yi (yvt [(0, 2)] (ycall n) [.ref a1, .int v1] A)).bind (fun z2 => if z2.1 = 0 then (some (some (.int (-1 : Int32)), z2.2)) else (if v2 = (0 : Int32) then (ygR z2.2 v0 10 0 (fun a5 => (yi (yvt [(0, 27)] (ycall n) [.ref a5, .int v1] z2.2)).bind (fun z6 => some (some (.int z6.1), z6.2)))) else (if v2 = (1 : Int32) then (ygR z2.2 v0 10 0 (fun a3 => (yi (yvt [(0, 25)] (ycall n) [.ref a3, .int v1] z2.2)).bind (fun z4 => some (some (.int z4.1), z4.2)))) else (some (some (.int (-1 : Int32)), z2.2)))))) := (ybig_blk 13 _).trans (z_aload_n cd_X11_cited_0 (j := 0) rfl rfl (p := 1) rfl (zgo rfl (z_getR cd_X11_cited_1 fd_X11_12 (p := 4) rfl (fun _ => (zgo rfl (z_iload_n cd_X11_cited_4 (j := 1) rfl rfl (p := 5) rfl (zgo rfl (z_cv1 cd_X11_cited_5 (zv (key := 270) (by decide)) cl_X11_c270 rfl rfl rfl rfl (p := 8) rfl (fun _ => (zgo rfl (z_if_ne cd_X11_cited_8 (p := 13) rfl (p2 := 11) rfl (zgo rfl (z_iconst cd_X11_cited_11 ki_m1 (p := 12) rfl (zgo rfl (z_iret cd_X11_cited_12 rfl)))) (zgo rfl (z_iload_n cd_X11_cited_13 (j := 2) rfl rfl (p := 14) rfl (zgo rfl (z_lsw cd_X11_cited_14 (p := 58) rfl (ps := [(0, 40), (1, 49)]) rfl (z_swc ki_0 (zgo rfl (z_aload_n cd_X11_cited_40 (j := 0) rfl rfl (p := 41) rfl (zgo rfl (z_getR cd_X11_cited_41 fd_X11_12 (p := 44) rfl (fun _ => (zgo rfl (z_iload_n cd_X11_cited_44 (j := 1) rfl rfl (p := 45) rfl (zgo rfl (z_cv1 cd_X11_cited_45 (zv (key := 531) (by decide)) cl_X11_c531 rfl rfl rfl rfl (p := 48) rfl (fun _ => (zgo rfl (z_iret cd_X11_cited_48 rfl)))))))))))) (z_swc ki_1 (zgo rfl (z_aload_n cd_X11_cited_49 (j := 0) rfl rfl (p := 50) rfl (zgo rfl (z_getR cd_X11_cited_50 fd_X11_12 (p := 53) rfl (fun _ => (zgo rfl (z_iload_n cd_X11_cited_53 (j := 1) rfl rfl (p := 54) rfl (zgo rfl (z_cv1 cd_X11_cited_54 (zv (key := 540) (by decide)) cl_X11_c540 rfl rfl rfl rfl (p := 57) rfl (fun _ => (zgo rfl (z_iret cd_X11_cited_57 rfl)))))))))))) (z_swn (zgo rfl (z_iconst cd_X11_cited_58 ki_m1 (p := 59) rfl (zgo rfl (z_iret cd_X11_cited_59 rfl))))))))))))))))))))))
theorem cd_X11_worth_0 : ylk m_X11_worth.2.2.2.2.1 0 = some (.aload_n 0) := by decide +kernel
theorem cd_X11_worth_1 : ylk m_X11_worth.2.2.2.2.1 1 = some (.getfield 12) := by decide +kernel
theorem cd_X11_worth_4 : ylk m_X11_worth.2.2.2.2.1 4 = some (.iload_n 1) := by decide +kernel
theorem cd_X11_worth_5 : ylk m_X11_worth.2.2.2.2.1 5 = some (.invokevirtual 90) := by decide +kernel
theorem cd_X11_worth_8 : ylk m_X11_worth.2.2.2.2.1 8 = some (.ifCond .eq 10) := by decide +kernel
theorem cd_X11_worth_11 : ylk m_X11_worth.2.2.2.2.1 11 = some (.iload_n 2) := by decide +kernel
theorem cd_X11_worth_12 : ylk m_X11_worth.2.2.2.2.1 12 = some (.invokestatic 183) := by decide +kernel
theorem cd_X11_worth_15 : ylk m_X11_worth.2.2.2.2.1 15 = some (.ifCond .ne 8) := by decide +kernel
theorem cd_X11_worth_18 : ylk m_X11_worth.2.2.2.2.1 18 = some (.iconst (-1)) := by decide +kernel
theorem cd_X11_worth_19 : ylk m_X11_worth.2.2.2.2.1 19 = some (.invokestatic 186) := by decide +kernel
theorem cd_X11_worth_22 : ylk m_X11_worth.2.2.2.2.1 22 = some (.lreturn) := by decide +kernel
theorem cd_X11_worth_23 : ylk m_X11_worth.2.2.2.2.1 23 = some (.aload_n 0) := by decide +kernel
theorem cd_X11_worth_24 : ylk m_X11_worth.2.2.2.2.1 24 = some (.getfield 12) := by decide +kernel
theorem cd_X11_worth_27 : ylk m_X11_worth.2.2.2.2.1 27 = some (.aload_n 0) := by decide +kernel
theorem cd_X11_worth_28 : ylk m_X11_worth.2.2.2.2.1 28 = some (.getfield 33) := by decide +kernel
theorem cd_X11_worth_31 : ylk m_X11_worth.2.2.2.2.1 31 = some (.invokevirtual 190) := by decide +kernel
theorem cd_X11_worth_34 : ylk m_X11_worth.2.2.2.2.1 34 = some (.aload_n 0) := by decide +kernel
theorem cd_X11_worth_35 : ylk m_X11_worth.2.2.2.2.1 35 = some (.getfield 33) := by decide +kernel
theorem cd_X11_worth_38 : ylk m_X11_worth.2.2.2.2.1 38 = some (.iload_n 1) := by decide +kernel
theorem cd_X11_worth_39 : ylk m_X11_worth.2.2.2.2.1 39 = some (.iaload) := by decide +kernel
theorem cd_X11_worth_40 : ylk m_X11_worth.2.2.2.2.1 40 = some (.i2l) := by decide +kernel
theorem cd_X11_worth_41 : ylk m_X11_worth.2.2.2.2.1 41 = some (.ldc2_w 193) := by decide +kernel
theorem cd_X11_worth_44 : ylk m_X11_worth.2.2.2.2.1 44 = some (.iload_n 2) := by decide +kernel
theorem cd_X11_worth_45 : ylk m_X11_worth.2.2.2.2.1 45 = some (.invokestatic 195) := by decide +kernel
theorem cd_X11_worth_48 : ylk m_X11_worth.2.2.2.2.1 48 = some (.lreturn) := by decide +kernel
noncomputable abbrev yb_X11_worth (C : yC) : ySt → Option (Option Value × yM) := yrn m_X11_worth C
theorem en_X11_worth (n : Nat) (A : yM) (v0 : Nat) (v1 : Int32) (v2 : Int32) : ycall (n + 1) 93 [.ref v0, .int v1, .int v2] A = ygR A v0 10 0 (fun a1 => (yi (yvt [(0, 2)] (ycall n) [.ref a1, .int v1] A)).bind (fun z2 => if z2.1 = 0 then ((yl ((ycall n) 100 [.int (-1 : Int32)] z2.2)).bind (fun z3 => some (some (.long z3.1), z3.2))) else ((yi ((ycall n) 99 [.int v2] z2.2)).bind (fun z4 => if z4.1 = 0 then ((yl ((ycall n) 100 [.int (-1 : Int32)] z4.2)).bind (fun z11 => some (some (.long z11.1), z11.2))) else (ygR z4.2 v0 10 0 (fun a5 => ygR z4.2 v0 10 5 (fun a6 => (yv (yvt [(0, 28)] (ycall n) [.ref a5, .ref a6] z4.2)).bind (fun A7 => ygR A7 v0 10 5 (fun a8 => yrd A7 a8 v1 (fun x9 => (yl ((ycall n) 101 [.long x9.toInt64, .long (2048 : Int64), .int v2] A7)).bind (fun z10 => some (some (.long z10.1), z10.2)))))))))))) := (ybig_blk 23 _).trans (z_aload_n cd_X11_worth_0 (j := 0) rfl rfl (p := 1) rfl (zgo rfl (z_getR cd_X11_worth_1 fd_X11_12 (p := 4) rfl (fun _ => (zgo rfl (z_iload_n cd_X11_worth_4 (j := 1) rfl rfl (p := 5) rfl (zgo rfl (z_cv1 cd_X11_worth_5 (zv (key := 270) (by decide)) cl_X11_c270 rfl rfl rfl rfl (p := 8) rfl (fun _ => (zgo rfl (z_if_eq cd_X11_worth_8 (p := 18) rfl (p2 := 11) rfl (zgo rfl (z_iconst cd_X11_worth_18 ki_m1 (p := 19) rfl (zgo rfl (z_cs2 cd_X11_worth_19 (zs (key := 559) (by decide)) cl_X11_c559 rfl rfl rfl rfl (p := 22) rfl (fun _ => (zgo rfl (z_lret cd_X11_worth_22 rfl))))))) (zgo rfl (z_iload_n cd_X11_worth_11 (j := 2) rfl rfl (p := 12) rfl (zgo rfl (z_cs1 cd_X11_worth_12 (zs (key := 550) (by decide)) cl_X11_c550 rfl rfl rfl rfl (p := 15) rfl (fun _ => (zgo rfl (z_if_ne cd_X11_worth_15 (p := 23) rfl (p2 := 18) rfl (zgo rfl (z_iconst cd_X11_worth_18 ki_m1 (p := 19) rfl (zgo rfl (z_cs2 cd_X11_worth_19 (zs (key := 559) (by decide)) cl_X11_c559 rfl rfl rfl rfl (p := 22) rfl (fun _ => (zgo rfl (z_lret cd_X11_worth_22 rfl))))))) (zgo rfl (z_aload_n cd_X11_worth_23 (j := 0) rfl rfl (p := 24) rfl (zgo rfl (z_getR cd_X11_worth_24 fd_X11_12 (p := 27) rfl (fun _ => (zgo rfl (z_aload_n cd_X11_worth_27 (j := 0) rfl rfl (p := 28) rfl (zgo rfl (z_getR cd_X11_worth_28 fd_X11_33 (p := 31) rfl (fun _ => (zgo rfl (z_cv0 cd_X11_worth_31 (zv (key := 570) (by decide)) cl_X11_c570 rfl rfl rfl rfl (p := 34) rfl (fun _ => (zgo rfl (z_aload_n cd_X11_worth_34 (j := 0) rfl rfl (p := 35) rfl (zgo rfl (z_getR cd_X11_worth_35 fd_X11_33 (p := 38) rfl (fun _ => (zgo rfl (z_iload_n cd_X11_worth_38 (j := 1) rfl rfl (p := 39) rfl (zgo rfl (z_iaload cd_X11_worth_39 (p := 40) rfl (fun _ => (zgo rfl (z_i2l cd_X11_worth_40 (p := 41) rfl (zgo rfl (z_ldc2_w cd_X11_worth_41 ct_X11_193 (p := 44) rfl (zgo rfl (z_iload_n cd_X11_worth_44 (j := 2) rfl rfl (p := 45) rfl (zgo rfl (z_cs2 cd_X11_worth_45 (zs (key := 586) (by decide)) cl_X11_c586 rfl rfl rfl rfl (p := 48) rfl (fun _ => (zgo rfl (z_lret cd_X11_worth_48 rfl))))))))))))))))))))))))))))))))))))))))))))))))))))
theorem cd_X11_nets_0 : ylk m_X11_nets.2.2.2.2.1 0 = some (.iload_n 1) := by decide +kernel
theorem cd_X11_nets_1 : ylk m_X11_nets.2.2.2.2.1 1 = some (.tableswitch 61 0 3 #[31, 36, 41, 53]) := by decide +kernel
theorem cd_X11_nets_32 : ylk m_X11_nets.2.2.2.2.1 32 = some (.aload_n 0) := by decide +kernel
theorem cd_X11_nets_33 : ylk m_X11_nets.2.2.2.2.1 33 = some (.invokevirtual 199) := by decide +kernel
theorem cd_X11_nets_36 : ylk m_X11_nets.2.2.2.2.1 36 = some (.ireturn) := by decide +kernel
theorem cd_X11_nets_37 : ylk m_X11_nets.2.2.2.2.1 37 = some (.aload_n 0) := by decide +kernel
theorem cd_X11_nets_38 : ylk m_X11_nets.2.2.2.2.1 38 = some (.invokevirtual 202) := by decide +kernel
theorem cd_X11_nets_41 : ylk m_X11_nets.2.2.2.2.1 41 = some (.ireturn) := by decide +kernel
theorem cd_X11_nets_42 : ylk m_X11_nets.2.2.2.2.1 42 = some (.aload_n 0) := by decide +kernel
theorem cd_X11_nets_43 : ylk m_X11_nets.2.2.2.2.1 43 = some (.getfield 12) := by decide +kernel
theorem cd_X11_nets_46 : ylk m_X11_nets.2.2.2.2.1 46 = some (.aload_n 0) := by decide +kernel
theorem cd_X11_nets_47 : ylk m_X11_nets.2.2.2.2.1 47 = some (.invokevirtual 202) := by decide +kernel
theorem cd_X11_nets_50 : ylk m_X11_nets.2.2.2.2.1 50 = some (.invokevirtual 205) := by decide +kernel
theorem cd_X11_nets_53 : ylk m_X11_nets.2.2.2.2.1 53 = some (.ireturn) := by decide +kernel
theorem cd_X11_nets_54 : ylk m_X11_nets.2.2.2.2.1 54 = some (.aload_n 0) := by decide +kernel
theorem cd_X11_nets_55 : ylk m_X11_nets.2.2.2.2.1 55 = some (.getfield 12) := by decide +kernel
theorem cd_X11_nets_58 : ylk m_X11_nets.2.2.2.2.1 58 = some (.invokevirtual 208) := by decide +kernel
theorem cd_X11_nets_61 : ylk m_X11_nets.2.2.2.2.1 61 = some (.ireturn) := by decide +kernel
theorem cd_X11_nets_62 : ylk m_X11_nets.2.2.2.2.1 62 = some (.iconst (-1)) := by decide +kernel
theorem cd_X11_nets_63 : ylk m_X11_nets.2.2.2.2.1 63 = some (.ireturn) := by decide +kernel
noncomputable abbrev yb_X11_nets (C : yC) : ySt → Option (Option Value × yM) := yrn m_X11_nets C
theorem en_X11_nets (n : Nat) (A : yM) (v0 : Nat) (v1 : Int32) : ycall (n + 1) 94 [.ref v0, .int v1] A = (if v1 = (0 : Int32) then ((yi (yvt [(10, 95)] (ycall n) [.ref v0] A)).bind (fun z7 => some (some (.int z7.1), z7.2))) else (if v1 = (1 : Int32) then ((yi (yvt [(10, 96)] (ycall n) [.ref v0] A)).bind (fun z6 => some (some (.int z6.1), z6.2))) else (if v1 = (2 : Int32) then (ygR A v0 10 0 (fun a3 => (yi (yvt [(10, 96)] (ycall n) [.ref v0] A)).bind (fun z4 => (yi (yvt [(0, 26)] (ycall n) [.ref a3, .int z4.1] z4.2)).bind (fun z5 => some (some (.int z5.1), z5.2))))) else (if v1 = (3 : Int32) then (ygR A v0 10 0 (fun a1 => (yi (yvt [(0, 29)] (ycall n) [.ref a1] A)).bind (fun z2 => some (some (.int z2.1), z2.2)))) else (some (some (.int (-1 : Int32)), A)))))) := (ybig_blk 9 _).trans (z_iload_n cd_X11_nets_0 (j := 1) rfl rfl (p := 1) rfl (zgo rfl (z_sw cd_X11_nets_1 (p := 62) rfl (ps := [(0, 32), (1, 37), (2, 42), (3, 54)]) rfl (z_swc ki_0 (zgo rfl (z_aload_n cd_X11_nets_32 (j := 0) rfl rfl (p := 33) rfl (zgo rfl (z_cv1 cd_X11_nets_33 (zv (key := 597) (by decide)) cl_X11_c597 rfl rfl rfl rfl (p := 36) rfl (fun _ => (zgo rfl (z_iret cd_X11_nets_36 rfl))))))) (z_swc ki_1 (zgo rfl (z_aload_n cd_X11_nets_37 (j := 0) rfl rfl (p := 38) rfl (zgo rfl (z_cv1 cd_X11_nets_38 (zv (key := 606) (by decide)) cl_X11_c606 rfl rfl rfl rfl (p := 41) rfl (fun _ => (zgo rfl (z_iret cd_X11_nets_41 rfl))))))) (z_swc ki_2 (zgo rfl (z_aload_n cd_X11_nets_42 (j := 0) rfl rfl (p := 43) rfl (zgo rfl (z_getR cd_X11_nets_43 fd_X11_12 (p := 46) rfl (fun _ => (zgo rfl (z_aload_n cd_X11_nets_46 (j := 0) rfl rfl (p := 47) rfl (zgo rfl (z_cv1 cd_X11_nets_47 (zv (key := 606) (by decide)) cl_X11_c606 rfl rfl rfl rfl (p := 50) rfl (fun _ => (zgo rfl (z_cv1 cd_X11_nets_50 (zv (key := 615) (by decide)) cl_X11_c615 rfl rfl rfl rfl (p := 53) rfl (fun _ => (zgo rfl (z_iret cd_X11_nets_53 rfl))))))))))))))) (z_swc ki_3 (zgo rfl (z_aload_n cd_X11_nets_54 (j := 0) rfl rfl (p := 55) rfl (zgo rfl (z_getR cd_X11_nets_55 fd_X11_12 (p := 58) rfl (fun _ => (zgo rfl (z_cv1 cd_X11_nets_58 (zv (key := 624) (by decide)) cl_X11_c624 rfl rfl rfl rfl (p := 61) rfl (fun _ => (zgo rfl (z_iret cd_X11_nets_61 rfl)))))))))) (z_swn (zgo rfl (z_iconst cd_X11_nets_62 ki_m1 (p := 63) rfl (zgo rfl (z_iret cd_X11_nets_63 rfl))))))))))))
theorem cd_X11_dearest_0 : ylk m_X11_dearest.2.2.2.2.1 0 = some (.aload_n 0) := by decide +kernel
theorem cd_X11_dearest_1 : ylk m_X11_dearest.2.2.2.2.1 1 = some (.getfield 12) := by decide +kernel
theorem cd_X11_dearest_4 : ylk m_X11_dearest.2.2.2.2.1 4 = some (.aload_n 0) := by decide +kernel
theorem cd_X11_dearest_5 : ylk m_X11_dearest.2.2.2.2.1 5 = some (.getfield 33) := by decide +kernel
theorem cd_X11_dearest_8 : ylk m_X11_dearest.2.2.2.2.1 8 = some (.invokevirtual 190) := by decide +kernel
theorem cd_X11_dearest_11 : ylk m_X11_dearest.2.2.2.2.1 11 = some (.aload_n 0) := by decide +kernel
theorem cd_X11_dearest_12 : ylk m_X11_dearest.2.2.2.2.1 12 = some (.getfield 33) := by decide +kernel
theorem cd_X11_dearest_15 : ylk m_X11_dearest.2.2.2.2.1 15 = some (.aload_n 0) := by decide +kernel
theorem cd_X11_dearest_16 : ylk m_X11_dearest.2.2.2.2.1 16 = some (.getfield 12) := by decide +kernel
theorem cd_X11_dearest_19 : ylk m_X11_dearest.2.2.2.2.1 19 = some (.getfield 158) := by decide +kernel
theorem cd_X11_dearest_22 : ylk m_X11_dearest.2.2.2.2.1 22 = some (.invokestatic 211) := by decide +kernel
theorem cd_X11_dearest_25 : ylk m_X11_dearest.2.2.2.2.1 25 = some (.ireturn) := by decide +kernel
noncomputable abbrev yb_X11_dearest (C : yC) : ySt → Option (Option Value × yM) := yrn m_X11_dearest C
theorem en_X11_dearest (n : Nat) (A : yM) (v0 : Nat) : ycall (n + 1) 95 [.ref v0] A = ygR A v0 10 0 (fun a1 => ygR A v0 10 5 (fun a2 => (yv (yvt [(0, 28)] (ycall n) [.ref a1, .ref a2] A)).bind (fun A3 => ygR A3 v0 10 5 (fun a4 => ygR A3 v0 10 0 (fun a5 => ygI A3 a5 0 5 (fun x6 => (yi ((ycall n) 98 [.ref a4, .int x6] A3)).bind (fun z7 => some (some (.int z7.1), z7.2)))))))) := (ybig_blk 13 _).trans (z_aload_n cd_X11_dearest_0 (j := 0) rfl rfl (p := 1) rfl (zgo rfl (z_getR cd_X11_dearest_1 fd_X11_12 (p := 4) rfl (fun _ => (zgo rfl (z_aload_n cd_X11_dearest_4 (j := 0) rfl rfl (p := 5) rfl (zgo rfl (z_getR cd_X11_dearest_5 fd_X11_33 (p := 8) rfl (fun _ => (zgo rfl (z_cv0 cd_X11_dearest_8 (zv (key := 570) (by decide)) cl_X11_c570 rfl rfl rfl rfl (p := 11) rfl (fun _ => (zgo rfl (z_aload_n cd_X11_dearest_11 (j := 0) rfl rfl (p := 12) rfl (zgo rfl (z_getR cd_X11_dearest_12 fd_X11_33 (p := 15) rfl (fun _ => (zgo rfl (z_aload_n cd_X11_dearest_15 (j := 0) rfl rfl (p := 16) rfl (zgo rfl (z_getR cd_X11_dearest_16 fd_X11_12 (p := 19) rfl (fun _ => (zgo rfl (z_getI cd_X11_dearest_19 fd_X11_158 (p := 22) rfl (fun _ => (zgo rfl (z_cs1 cd_X11_dearest_22 (zs (key := 634) (by decide)) cl_X11_c634 rfl rfl rfl rfl (p := 25) rfl (fun _ => (zgo rfl (z_iret cd_X11_dearest_25 rfl))))))))))))))))))))))))))))))
theorem cd_X11_longest_0 : ylk m_X11_longest.2.2.2.2.1 0 = some (.iconst 0) := by decide +kernel
theorem cd_X11_longest_1 : ylk m_X11_longest.2.2.2.2.1 1 = some (.istore_n 1) := by decide +kernel
theorem cd_X11_longest_2 : ylk m_X11_longest.2.2.2.2.1 2 = some (.iconst 0) := by decide +kernel
theorem cd_X11_longest_3 : ylk m_X11_longest.2.2.2.2.1 3 = some (.istore_n 2) := by decide +kernel
theorem cd_X11_longest_4 : ylk m_X11_longest.2.2.2.2.1 4 = some (.iload_n 2) := by decide +kernel
theorem cd_X11_longest_5 : ylk m_X11_longest.2.2.2.2.1 5 = some (.aload_n 0) := by decide +kernel
theorem cd_X11_longest_6 : ylk m_X11_longest.2.2.2.2.1 6 = some (.getfield 12) := by decide +kernel
theorem cd_X11_longest_9 : ylk m_X11_longest.2.2.2.2.1 9 = some (.getfield 158) := by decide +kernel
theorem cd_X11_longest_12 : ylk m_X11_longest.2.2.2.2.1 12 = some (.if_icmp .ge 22) := by decide +kernel
theorem cd_X11_longest_15 : ylk m_X11_longest.2.2.2.2.1 15 = some (.iload_n 1) := by decide +kernel
theorem cd_X11_longest_16 : ylk m_X11_longest.2.2.2.2.1 16 = some (.aload_n 0) := by decide +kernel
theorem cd_X11_longest_17 : ylk m_X11_longest.2.2.2.2.1 17 = some (.getfield 12) := by decide +kernel
theorem cd_X11_longest_20 : ylk m_X11_longest.2.2.2.2.1 20 = some (.iload_n 2) := by decide +kernel
theorem cd_X11_longest_21 : ylk m_X11_longest.2.2.2.2.1 21 = some (.invokevirtual 180) := by decide +kernel
theorem cd_X11_longest_24 : ylk m_X11_longest.2.2.2.2.1 24 = some (.invokestatic 215) := by decide +kernel
theorem cd_X11_longest_27 : ylk m_X11_longest.2.2.2.2.1 27 = some (.istore_n 1) := by decide +kernel
theorem cd_X11_longest_28 : ylk m_X11_longest.2.2.2.2.1 28 = some (.iinc 2 1) := by decide +kernel
theorem cd_X11_longest_31 : ylk m_X11_longest.2.2.2.2.1 31 = some (.goto (-27)) := by decide +kernel
theorem cd_X11_longest_34 : ylk m_X11_longest.2.2.2.2.1 34 = some (.iload_n 1) := by decide +kernel
theorem cd_X11_longest_35 : ylk m_X11_longest.2.2.2.2.1 35 = some (.ireturn) := by decide +kernel
noncomputable abbrev yb_X11_longest (C : yC) : ySt → Option (Option Value × yM) := yrn m_X11_longest C
theorem en_X11_longest (n : Nat) (A : yM) (v0 : Nat) : ycall (n + 1) 96 [.ref v0] A = yb_X11_longest (ycall n) (4, [some (.ref v0), some (.int (0 : Int32)), some (.int (0 : Int32))], [], A) := (ybig_blk 5 _).trans (z_iconst cd_X11_longest_0 ki_0 (p := 1) rfl (zgo rfl (z_istore_n cd_X11_longest_1 (j := 1) rfl rfl (p := 2) rfl (zgo rfl (z_iconst cd_X11_longest_2 ki_0 (p := 3) rfl (zgo rfl (z_istore_n cd_X11_longest_3 (j := 2) rfl rfl (p := 4) rfl (zcut (p := 4) rfl rfl))))))))
theorem bk_X11_longest_4 (C : yC) (A : yM) (v0 : Nat) (v1 : Int32) (v2 : Int32) : yb_X11_longest C (4, [some (.ref v0), some (.int v1), some (.int v2)], [], A) = ygR A v0 10 0 (fun a1 => ygI A a1 0 5 (fun x2 => if x2 ≤ v2 then (some (some (.int v1), A)) else (ygR A v0 10 0 (fun a3 => (yi (yvt [(0, 25)] C [.ref a3, .int v2] A)).bind (fun z4 => yb_X11_longest C (4, [some (.ref v0), some (.int (if v1 < z4.1 then z4.1 else v1)), some (.int (v2 + (1 : Int32)))], [], z4.2)))))) := (ybig_blk 15 _).trans (z_iload_n cd_X11_longest_4 (j := 2) rfl rfl (p := 5) rfl (zgo rfl (z_aload_n cd_X11_longest_5 (j := 0) rfl rfl (p := 6) rfl (zgo rfl (z_getR cd_X11_longest_6 fd_X11_12 (p := 9) rfl (fun _ => (zgo rfl (z_getI cd_X11_longest_9 fd_X11_158 (p := 12) rfl (fun _ => (zgo rfl (z_ic_ge cd_X11_longest_12 (p := 34) rfl (p2 := 15) rfl (zgo rfl (z_iload_n cd_X11_longest_34 (j := 1) rfl rfl (p := 35) rfl (zgo rfl (z_iret cd_X11_longest_35 rfl)))) (zgo rfl (z_iload_n cd_X11_longest_15 (j := 1) rfl rfl (p := 16) rfl (zgo rfl (z_aload_n cd_X11_longest_16 (j := 0) rfl rfl (p := 17) rfl (zgo rfl (z_getR cd_X11_longest_17 fd_X11_12 (p := 20) rfl (fun _ => (zgo rfl (z_iload_n cd_X11_longest_20 (j := 2) rfl rfl (p := 21) rfl (zgo rfl (z_cv1 cd_X11_longest_21 (zv (key := 540) (by decide)) cl_X11_c540 rfl rfl rfl rfl (p := 24) rfl (fun _ => (zgo rfl (z_max cd_X11_longest_24 (zs (key := 646) (by decide)) cl_X11_c646 rfl (p := 27) rfl (zgo rfl (z_istore_n cd_X11_longest_27 (j := 1) rfl rfl (p := 28) rfl (zgo rfl (z_iinc cd_X11_longest_28 ki_1 rfl rfl (p := 31) rfl (zgo rfl (z_goto cd_X11_longest_31 (p := 4) rfl (zcut (p := 4) rfl rfl))))))))))))))))))))))))))))))))
theorem cd_X11_topics_0 : ylk m_X11_topics.2.2.2.2.1 0 = some (.iload_n 1) := by decide +kernel
theorem cd_X11_topics_1 : ylk m_X11_topics.2.2.2.2.1 1 = some (.ifCond .lt 8) := by decide +kernel
theorem cd_X11_topics_4 : ylk m_X11_topics.2.2.2.2.1 4 = some (.iload_n 1) := by decide +kernel
theorem cd_X11_topics_5 : ylk m_X11_topics.2.2.2.2.1 5 = some (.iconst 1) := by decide +kernel
theorem cd_X11_topics_6 : ylk m_X11_topics.2.2.2.2.1 6 = some (.if_icmp .le 5) := by decide +kernel
theorem cd_X11_topics_9 : ylk m_X11_topics.2.2.2.2.1 9 = some (.iconst (-1)) := by decide +kernel
theorem cd_X11_topics_10 : ylk m_X11_topics.2.2.2.2.1 10 = some (.ireturn) := by decide +kernel
theorem cd_X11_topics_11 : ylk m_X11_topics.2.2.2.2.1 11 = some (.iconst 0) := by decide +kernel
theorem cd_X11_topics_12 : ylk m_X11_topics.2.2.2.2.1 12 = some (.istore_n 2) := by decide +kernel
theorem cd_X11_topics_13 : ylk m_X11_topics.2.2.2.2.1 13 = some (.iload_n 2) := by decide +kernel
theorem cd_X11_topics_14 : ylk m_X11_topics.2.2.2.2.1 14 = some (.bipush 6) := by decide +kernel
theorem cd_X11_topics_16 : ylk m_X11_topics.2.2.2.2.1 16 = some (.if_icmp .ge 16) := by decide +kernel
theorem cd_X11_topics_19 : ylk m_X11_topics.2.2.2.2.1 19 = some (.aload_n 0) := by decide +kernel
theorem cd_X11_topics_20 : ylk m_X11_topics.2.2.2.2.1 20 = some (.getfield 33) := by decide +kernel
theorem cd_X11_topics_23 : ylk m_X11_topics.2.2.2.2.1 23 = some (.iload_n 2) := by decide +kernel
theorem cd_X11_topics_24 : ylk m_X11_topics.2.2.2.2.1 24 = some (.iconst 0) := by decide +kernel
theorem cd_X11_topics_25 : ylk m_X11_topics.2.2.2.2.1 25 = some (.iastore) := by decide +kernel
theorem cd_X11_topics_26 : ylk m_X11_topics.2.2.2.2.1 26 = some (.iinc 2 1) := by decide +kernel
theorem cd_X11_topics_29 : ylk m_X11_topics.2.2.2.2.1 29 = some (.goto (-16)) := by decide +kernel
theorem cd_X11_topics_32 : ylk m_X11_topics.2.2.2.2.1 32 = some (.iconst 0) := by decide +kernel
theorem cd_X11_topics_33 : ylk m_X11_topics.2.2.2.2.1 33 = some (.istore_n 2) := by decide +kernel
theorem cd_X11_topics_34 : ylk m_X11_topics.2.2.2.2.1 34 = some (.iconst 0) := by decide +kernel
theorem cd_X11_topics_35 : ylk m_X11_topics.2.2.2.2.1 35 = some (.istore_n 3) := by decide +kernel
theorem cd_X11_topics_36 : ylk m_X11_topics.2.2.2.2.1 36 = some (.iload_n 3) := by decide +kernel
theorem cd_X11_topics_37 : ylk m_X11_topics.2.2.2.2.1 37 = some (.aload_n 0) := by decide +kernel
theorem cd_X11_topics_38 : ylk m_X11_topics.2.2.2.2.1 38 = some (.getfield 12) := by decide +kernel
theorem cd_X11_topics_41 : ylk m_X11_topics.2.2.2.2.1 41 = some (.getfield 158) := by decide +kernel
theorem cd_X11_topics_44 : ylk m_X11_topics.2.2.2.2.1 44 = some (.if_icmp .ge 41) := by decide +kernel
theorem cd_X11_topics_47 : ylk m_X11_topics.2.2.2.2.1 47 = some (.iload_n 2) := by decide +kernel
theorem cd_X11_topics_48 : ylk m_X11_topics.2.2.2.2.1 48 = some (.iconst 1) := by decide +kernel
theorem cd_X11_topics_49 : ylk m_X11_topics.2.2.2.2.1 49 = some (.aload_n 0) := by decide +kernel
theorem cd_X11_topics_50 : ylk m_X11_topics.2.2.2.2.1 50 = some (.getfield 12) := by decide +kernel
theorem cd_X11_topics_53 : ylk m_X11_topics.2.2.2.2.1 53 = some (.getfield 96) := by decide +kernel
theorem cd_X11_topics_56 : ylk m_X11_topics.2.2.2.2.1 56 = some (.iload_n 3) := by decide +kernel
theorem cd_X11_topics_57 : ylk m_X11_topics.2.2.2.2.1 57 = some (.iaload) := by decide +kernel
theorem cd_X11_topics_58 : ylk m_X11_topics.2.2.2.2.1 58 = some (.ishl) := by decide +kernel
theorem cd_X11_topics_59 : ylk m_X11_topics.2.2.2.2.1 59 = some (.ior) := by decide +kernel
theorem cd_X11_topics_60 : ylk m_X11_topics.2.2.2.2.1 60 = some (.istore_n 2) := by decide +kernel
theorem cd_X11_topics_61 : ylk m_X11_topics.2.2.2.2.1 61 = some (.aload_n 0) := by decide +kernel
theorem cd_X11_topics_62 : ylk m_X11_topics.2.2.2.2.1 62 = some (.getfield 33) := by decide +kernel
theorem cd_X11_topics_65 : ylk m_X11_topics.2.2.2.2.1 65 = some (.aload_n 0) := by decide +kernel
theorem cd_X11_topics_66 : ylk m_X11_topics.2.2.2.2.1 66 = some (.getfield 12) := by decide +kernel
theorem cd_X11_topics_69 : ylk m_X11_topics.2.2.2.2.1 69 = some (.getfield 96) := by decide +kernel
theorem cd_X11_topics_72 : ylk m_X11_topics.2.2.2.2.1 72 = some (.iload_n 3) := by decide +kernel
theorem cd_X11_topics_73 : ylk m_X11_topics.2.2.2.2.1 73 = some (.iaload) := by decide +kernel
theorem cd_X11_topics_74 : ylk m_X11_topics.2.2.2.2.1 74 = some (.dup2) := by decide +kernel
theorem cd_X11_topics_75 : ylk m_X11_topics.2.2.2.2.1 75 = some (.iaload) := by decide +kernel
theorem cd_X11_topics_76 : ylk m_X11_topics.2.2.2.2.1 76 = some (.iconst 1) := by decide +kernel
theorem cd_X11_topics_77 : ylk m_X11_topics.2.2.2.2.1 77 = some (.iadd) := by decide +kernel
theorem cd_X11_topics_78 : ylk m_X11_topics.2.2.2.2.1 78 = some (.iastore) := by decide +kernel
theorem cd_X11_topics_79 : ylk m_X11_topics.2.2.2.2.1 79 = some (.iinc 3 1) := by decide +kernel
theorem cd_X11_topics_82 : ylk m_X11_topics.2.2.2.2.1 82 = some (.goto (-46)) := by decide +kernel
theorem cd_X11_topics_85 : ylk m_X11_topics.2.2.2.2.1 85 = some (.iload_n 1) := by decide +kernel
theorem cd_X11_topics_86 : ylk m_X11_topics.2.2.2.2.1 86 = some (.ifCond .ne 5) := by decide +kernel
theorem cd_X11_topics_89 : ylk m_X11_topics.2.2.2.2.1 89 = some (.iload_n 2) := by decide +kernel
theorem cd_X11_topics_90 : ylk m_X11_topics.2.2.2.2.1 90 = some (.ireturn) := by decide +kernel
theorem cd_X11_topics_91 : ylk m_X11_topics.2.2.2.2.1 91 = some (.iload_n 2) := by decide +kernel
theorem cd_X11_topics_92 : ylk m_X11_topics.2.2.2.2.1 92 = some (.ifCond .ne 8) := by decide +kernel
theorem cd_X11_topics_95 : ylk m_X11_topics.2.2.2.2.1 95 = some (.bipush (-4)) := by decide +kernel
theorem cd_X11_topics_97 : ylk m_X11_topics.2.2.2.2.1 97 = some (.goto 12) := by decide +kernel
theorem cd_X11_topics_100 : ylk m_X11_topics.2.2.2.2.1 100 = some (.aload_n 0) := by decide +kernel
theorem cd_X11_topics_101 : ylk m_X11_topics.2.2.2.2.1 101 = some (.getfield 33) := by decide +kernel
theorem cd_X11_topics_104 : ylk m_X11_topics.2.2.2.2.1 104 = some (.bipush 6) := by decide +kernel
theorem cd_X11_topics_106 : ylk m_X11_topics.2.2.2.2.1 106 = some (.invokestatic 211) := by decide +kernel
theorem cd_X11_topics_109 : ylk m_X11_topics.2.2.2.2.1 109 = some (.ireturn) := by decide +kernel
noncomputable abbrev yb_X11_topics (C : yC) : ySt → Option (Option Value × yM) := yrn m_X11_topics C
theorem en_X11_topics (n : Nat) (A : yM) (v0 : Nat) (v1 : Int32) : ycall (n + 1) 97 [.ref v0, .int v1] A = if v1 < 0 then (some (some (.int (-1 : Int32)), A)) else (if v1 ≤ (1 : Int32) then (yb_X11_topics (ycall n) (13, [some (.ref v0), some (.int v1), some (.int (0 : Int32)), none], [], A)) else (some (some (.int (-1 : Int32)), A))) := (ybig_blk 8 _).trans (z_iload_n cd_X11_topics_0 (j := 1) rfl rfl (p := 1) rfl (zgo rfl (z_if_lt cd_X11_topics_1 (p := 9) rfl (p2 := 4) rfl (zgo rfl (z_iconst cd_X11_topics_9 ki_m1 (p := 10) rfl (zgo rfl (z_iret cd_X11_topics_10 rfl)))) (zgo rfl (z_iload_n cd_X11_topics_4 (j := 1) rfl rfl (p := 5) rfl (zgo rfl (z_iconst cd_X11_topics_5 ki_1 (p := 6) rfl (zgo rfl (z_ic_le cd_X11_topics_6 (p := 11) rfl (p2 := 9) rfl (zgo rfl (z_iconst cd_X11_topics_11 ki_0 (p := 12) rfl (zgo rfl (z_istore_n cd_X11_topics_12 (j := 2) rfl rfl (p := 13) rfl (zcut (p := 13) rfl rfl))))) (zgo rfl (z_iconst cd_X11_topics_9 ki_m1 (p := 10) rfl (zgo rfl (z_iret cd_X11_topics_10 rfl)))))))))))))
theorem bk_X11_topics_13 (C : yC) (A : yM) (v0 : Nat) (v1 : Int32) (v2 : Int32) : yb_X11_topics C (13, [some (.ref v0), some (.int v1), some (.int v2), none], [], A) = if (6 : Int32) ≤ v2 then (yb_X11_topics C (36, [some (.ref v0), some (.int v1), some (.int (0 : Int32)), some (.int (0 : Int32))], [], A)) else (ygR A v0 10 5 (fun a1 => ywr A a1 v2 (0 : Int32) (fun A2 => yb_X11_topics C (13, [some (.ref v0), some (.int v1), some (.int (v2 + (1 : Int32))), none], [], A2)))) := (ybig_blk 11 _).trans (z_iload_n cd_X11_topics_13 (j := 2) rfl rfl (p := 14) rfl (zgo rfl (z_bipush cd_X11_topics_14 kb_6 (p := 16) rfl (zgo rfl (z_ic_ge cd_X11_topics_16 (p := 32) rfl (p2 := 19) rfl (zgo rfl (z_iconst cd_X11_topics_32 ki_0 (p := 33) rfl (zgo rfl (z_istore_n cd_X11_topics_33 (j := 2) rfl rfl (p := 34) rfl (zgo rfl (z_iconst cd_X11_topics_34 ki_0 (p := 35) rfl (zgo rfl (z_istore_n cd_X11_topics_35 (j := 3) rfl rfl (p := 36) rfl (zcut (p := 36) rfl rfl))))))))) (zgo rfl (z_aload_n cd_X11_topics_19 (j := 0) rfl rfl (p := 20) rfl (zgo rfl (z_getR cd_X11_topics_20 fd_X11_33 (p := 23) rfl (fun _ => (zgo rfl (z_iload_n cd_X11_topics_23 (j := 2) rfl rfl (p := 24) rfl (zgo rfl (z_iconst cd_X11_topics_24 ki_0 (p := 25) rfl (zgo rfl (z_iastore cd_X11_topics_25 (p := 26) rfl (fun _ => (zgo rfl (z_iinc cd_X11_topics_26 ki_1 rfl rfl (p := 29) rfl (zgo rfl (z_goto cd_X11_topics_29 (p := 13) rfl (zcut (p := 13) rfl rfl))))))))))))))))))))))
theorem bk_X11_topics_36 (C : yC) (A : yM) (v0 : Nat) (v1 : Int32) (v2 : Int32) (v3 : Int32) : yb_X11_topics C (36, [some (.ref v0), some (.int v1), some (.int v2), some (.int v3)], [], A) = ygR A v0 10 0 (fun a1 => ygI A a1 0 5 (fun x2 => if x2 ≤ v3 then (if v1 = 0 then (some (some (.int v2), A)) else (if v2 = 0 then (some (some (.int (-4 : Int32)), A)) else (ygR A v0 10 5 (fun a3 => (yi (C 98 [.ref a3, .int (6 : Int32)] A)).bind (fun z4 => some (some (.int z4.1), z4.2)))))) else (ygR A v0 10 0 (fun a5 => ygR A a5 0 7 (fun a6 => yrd A a6 v3 (fun x7 => ygR A v0 10 5 (fun a8 => ygR A v0 10 0 (fun a9 => ygR A a9 0 7 (fun a10 => yrd A a10 v3 (fun x11 => yrd A a8 x11 (fun x12 => ywr A a8 x11 (x12 + (1 : Int32)) (fun A13 => yb_X11_topics C (36, [some (.ref v0), some (.int v1), some (.int (v2 ||| ((1 : Int32) <<< (x7 &&& 31)))), some (.int (v3 + (1 : Int32)))], [], A13))))))))))))) := (ybig_blk 30 _).trans (z_iload_n cd_X11_topics_36 (j := 3) rfl rfl (p := 37) rfl (zgo rfl (z_aload_n cd_X11_topics_37 (j := 0) rfl rfl (p := 38) rfl (zgo rfl (z_getR cd_X11_topics_38 fd_X11_12 (p := 41) rfl (fun _ => (zgo rfl (z_getI cd_X11_topics_41 fd_X11_158 (p := 44) rfl (fun _ => (zgo rfl (z_ic_ge cd_X11_topics_44 (p := 85) rfl (p2 := 47) rfl (zgo rfl (z_iload_n cd_X11_topics_85 (j := 1) rfl rfl (p := 86) rfl (zgo rfl (z_if_ne cd_X11_topics_86 (p := 91) rfl (p2 := 89) rfl (zgo rfl (z_iload_n cd_X11_topics_89 (j := 2) rfl rfl (p := 90) rfl (zgo rfl (z_iret cd_X11_topics_90 rfl)))) (zgo rfl (z_iload_n cd_X11_topics_91 (j := 2) rfl rfl (p := 92) rfl (zgo rfl (z_if_ne cd_X11_topics_92 (p := 100) rfl (p2 := 95) rfl (zgo rfl (z_bipush cd_X11_topics_95 kb_m4 (p := 97) rfl (zgo rfl (z_goto cd_X11_topics_97 (p := 109) rfl (zgo rfl (z_iret cd_X11_topics_109 rfl)))))) (zgo rfl (z_aload_n cd_X11_topics_100 (j := 0) rfl rfl (p := 101) rfl (zgo rfl (z_getR cd_X11_topics_101 fd_X11_33 (p := 104) rfl (fun _ => (zgo rfl (z_bipush cd_X11_topics_104 kb_6 (p := 106) rfl (zgo rfl (z_cs1 cd_X11_topics_106 (zs (key := 634) (by decide)) cl_X11_c634 rfl rfl rfl rfl (p := 109) rfl (fun _ => (zgo rfl (z_iret cd_X11_topics_109 rfl)))))))))))))))))))) (zgo rfl (z_iload_n cd_X11_topics_47 (j := 2) rfl rfl (p := 48) rfl (zgo rfl (z_iconst cd_X11_topics_48 ki_1 (p := 49) rfl (zgo rfl (z_aload_n cd_X11_topics_49 (j := 0) rfl rfl (p := 50) rfl (zgo rfl (z_getR cd_X11_topics_50 fd_X11_12 (p := 53) rfl (fun _ => (zgo rfl (z_getR cd_X11_topics_53 fd_X11_96 (p := 56) rfl (fun _ => (zgo rfl (z_iload_n cd_X11_topics_56 (j := 3) rfl rfl (p := 57) rfl (zgo rfl (z_iaload cd_X11_topics_57 (p := 58) rfl (fun _ => (zgo rfl (z_ishl cd_X11_topics_58 (p := 59) rfl (zgo rfl (z_ior cd_X11_topics_59 (p := 60) rfl (zgo rfl (z_istore_n cd_X11_topics_60 (j := 2) rfl rfl (p := 61) rfl (zgo rfl (z_aload_n cd_X11_topics_61 (j := 0) rfl rfl (p := 62) rfl (zgo rfl (z_getR cd_X11_topics_62 fd_X11_33 (p := 65) rfl (fun _ => (zgo rfl (z_aload_n cd_X11_topics_65 (j := 0) rfl rfl (p := 66) rfl (zgo rfl (z_getR cd_X11_topics_66 fd_X11_12 (p := 69) rfl (fun _ => (zgo rfl (z_getR cd_X11_topics_69 fd_X11_96 (p := 72) rfl (fun _ => (zgo rfl (z_iload_n cd_X11_topics_72 (j := 3) rfl rfl (p := 73) rfl (zgo rfl (z_iaload cd_X11_topics_73 (p := 74) rfl (fun _ => (zgo rfl (z_dup2 cd_X11_topics_74 (p := 75) rfl (zgo rfl (z_iaload cd_X11_topics_75 (p := 76) rfl (fun _ => (zgo rfl (z_iconst cd_X11_topics_76 ki_1 (p := 77) rfl (zgo rfl (z_iadd cd_X11_topics_77 (p := 78) rfl (zgo rfl (z_iastore cd_X11_topics_78 (p := 79) rfl (fun _ => (zgo rfl (z_iinc cd_X11_topics_79 ki_1 rfl rfl (p := 82) rfl (zgo rfl (z_goto cd_X11_topics_82 (p := 36) rfl (zcut (p := 36) rfl rfl)))))))))))))))))))))))))))))))))))))))))))))))))))))))))))))))))))))
theorem cd_X11_firstOfMost_0 : ylk m_X11_firstOfMost.2.2.2.2.1 0 = some (.bipush (-4)) := by decide +kernel
theorem cd_X11_firstOfMost_2 : ylk m_X11_firstOfMost.2.2.2.2.1 2 = some (.istore_n 2) := by decide +kernel
theorem cd_X11_firstOfMost_3 : ylk m_X11_firstOfMost.2.2.2.2.1 3 = some (.iconst 0) := by decide +kernel
theorem cd_X11_firstOfMost_4 : ylk m_X11_firstOfMost.2.2.2.2.1 4 = some (.istore_n 3) := by decide +kernel
theorem cd_X11_firstOfMost_5 : ylk m_X11_firstOfMost.2.2.2.2.1 5 = some (.iload_n 3) := by decide +kernel
theorem cd_X11_firstOfMost_6 : ylk m_X11_firstOfMost.2.2.2.2.1 6 = some (.iload_n 1) := by decide +kernel
theorem cd_X11_firstOfMost_7 : ylk m_X11_firstOfMost.2.2.2.2.1 7 = some (.if_icmp .ge 24) := by decide +kernel
theorem cd_X11_firstOfMost_10 : ylk m_X11_firstOfMost.2.2.2.2.1 10 = some (.iload_n 2) := by decide +kernel
theorem cd_X11_firstOfMost_11 : ylk m_X11_firstOfMost.2.2.2.2.1 11 = some (.ifCond .lt 12) := by decide +kernel
theorem cd_X11_firstOfMost_14 : ylk m_X11_firstOfMost.2.2.2.2.1 14 = some (.aload_n 0) := by decide +kernel
theorem cd_X11_firstOfMost_15 : ylk m_X11_firstOfMost.2.2.2.2.1 15 = some (.iload_n 3) := by decide +kernel
theorem cd_X11_firstOfMost_16 : ylk m_X11_firstOfMost.2.2.2.2.1 16 = some (.iaload) := by decide +kernel
theorem cd_X11_firstOfMost_17 : ylk m_X11_firstOfMost.2.2.2.2.1 17 = some (.aload_n 0) := by decide +kernel
theorem cd_X11_firstOfMost_18 : ylk m_X11_firstOfMost.2.2.2.2.1 18 = some (.iload_n 2) := by decide +kernel
theorem cd_X11_firstOfMost_19 : ylk m_X11_firstOfMost.2.2.2.2.1 19 = some (.iaload) := by decide +kernel
theorem cd_X11_firstOfMost_20 : ylk m_X11_firstOfMost.2.2.2.2.1 20 = some (.if_icmp .le 5) := by decide +kernel
theorem cd_X11_firstOfMost_23 : ylk m_X11_firstOfMost.2.2.2.2.1 23 = some (.iload_n 3) := by decide +kernel
theorem cd_X11_firstOfMost_24 : ylk m_X11_firstOfMost.2.2.2.2.1 24 = some (.istore_n 2) := by decide +kernel
theorem cd_X11_firstOfMost_25 : ylk m_X11_firstOfMost.2.2.2.2.1 25 = some (.iinc 3 1) := by decide +kernel
theorem cd_X11_firstOfMost_28 : ylk m_X11_firstOfMost.2.2.2.2.1 28 = some (.goto (-23)) := by decide +kernel
theorem cd_X11_firstOfMost_31 : ylk m_X11_firstOfMost.2.2.2.2.1 31 = some (.iload_n 2) := by decide +kernel
theorem cd_X11_firstOfMost_32 : ylk m_X11_firstOfMost.2.2.2.2.1 32 = some (.ireturn) := by decide +kernel
noncomputable abbrev yb_X11_firstOfMost (C : yC) : ySt → Option (Option Value × yM) := yrn m_X11_firstOfMost C
theorem en_X11_firstOfMost (n : Nat) (A : yM) (v0 : Nat) (v1 : Int32) : ycall (n + 1) 98 [.ref v0, .int v1] A = yb_X11_firstOfMost (ycall n) (5, [some (.ref v0), some (.int v1), some (.int (-4 : Int32)), some (.int (0 : Int32))], [], A) := (ybig_blk 5 _).trans (z_bipush cd_X11_firstOfMost_0 kb_m4 (p := 2) rfl (zgo rfl (z_istore_n cd_X11_firstOfMost_2 (j := 2) rfl rfl (p := 3) rfl (zgo rfl (z_iconst cd_X11_firstOfMost_3 ki_0 (p := 4) rfl (zgo rfl (z_istore_n cd_X11_firstOfMost_4 (j := 3) rfl rfl (p := 5) rfl (zcut (p := 5) rfl rfl))))))))
theorem bk_X11_firstOfMost_5 (C : yC) (A : yM) (v0 : Nat) (v1 : Int32) (v2 : Int32) (v3 : Int32) : yb_X11_firstOfMost C (5, [some (.ref v0), some (.int v1), some (.int v2), some (.int v3)], [], A) = if v1 ≤ v3 then (some (some (.int v2), A)) else (if v2 < 0 then (yb_X11_firstOfMost C (5, [some (.ref v0), some (.int v1), some (.int v3), some (.int (v3 + (1 : Int32)))], [], A)) else (yrd A v0 v3 (fun x1 => yrd A v0 v2 (fun x2 => if x1 ≤ x2 then (yb_X11_firstOfMost C (5, [some (.ref v0), some (.int v1), some (.int v2), some (.int (v3 + (1 : Int32)))], [], A)) else (yb_X11_firstOfMost C (5, [some (.ref v0), some (.int v1), some (.int v3), some (.int (v3 + (1 : Int32)))], [], A)))))) := (ybig_blk 17 _).trans (z_iload_n cd_X11_firstOfMost_5 (j := 3) rfl rfl (p := 6) rfl (zgo rfl (z_iload_n cd_X11_firstOfMost_6 (j := 1) rfl rfl (p := 7) rfl (zgo rfl (z_ic_ge cd_X11_firstOfMost_7 (p := 31) rfl (p2 := 10) rfl (zgo rfl (z_iload_n cd_X11_firstOfMost_31 (j := 2) rfl rfl (p := 32) rfl (zgo rfl (z_iret cd_X11_firstOfMost_32 rfl)))) (zgo rfl (z_iload_n cd_X11_firstOfMost_10 (j := 2) rfl rfl (p := 11) rfl (zgo rfl (z_if_lt cd_X11_firstOfMost_11 (p := 23) rfl (p2 := 14) rfl (zgo rfl (z_iload_n cd_X11_firstOfMost_23 (j := 3) rfl rfl (p := 24) rfl (zgo rfl (z_istore_n cd_X11_firstOfMost_24 (j := 2) rfl rfl (p := 25) rfl (zgo rfl (z_iinc cd_X11_firstOfMost_25 ki_1 rfl rfl (p := 28) rfl (zgo rfl (z_goto cd_X11_firstOfMost_28 (p := 5) rfl (zcut (p := 5) rfl rfl))))))))) (zgo rfl (z_aload_n cd_X11_firstOfMost_14 (j := 0) rfl rfl (p := 15) rfl (zgo rfl (z_iload_n cd_X11_firstOfMost_15 (j := 3) rfl rfl (p := 16) rfl (zgo rfl (z_iaload cd_X11_firstOfMost_16 (p := 17) rfl (fun _ => (zgo rfl (z_aload_n cd_X11_firstOfMost_17 (j := 0) rfl rfl (p := 18) rfl (zgo rfl (z_iload_n cd_X11_firstOfMost_18 (j := 2) rfl rfl (p := 19) rfl (zgo rfl (z_iaload cd_X11_firstOfMost_19 (p := 20) rfl (fun _ => (zgo rfl (z_ic_le cd_X11_firstOfMost_20 (p := 25) rfl (p2 := 23) rfl (zgo rfl (z_iinc cd_X11_firstOfMost_25 ki_1 rfl rfl (p := 28) rfl (zgo rfl (z_goto cd_X11_firstOfMost_28 (p := 5) rfl (zcut (p := 5) rfl rfl))))) (zgo rfl (z_iload_n cd_X11_firstOfMost_23 (j := 3) rfl rfl (p := 24) rfl (zgo rfl (z_istore_n cd_X11_firstOfMost_24 (j := 2) rfl rfl (p := 25) rfl (zgo rfl (z_iinc cd_X11_firstOfMost_25 ki_1 rfl rfl (p := 28) rfl (zgo rfl (z_goto cd_X11_firstOfMost_28 (p := 5) rfl (zcut (p := 5) rfl rfl))))))))))))))))))))))))))))))))))
theorem cd_X11_isPart_0 : ylk m_X11_isPart.2.2.2.2.1 0 = some (.iload_n 0) := by decide +kernel
theorem cd_X11_isPart_1 : ylk m_X11_isPart.2.2.2.2.1 1 = some (.ifCond .eq 8) := by decide +kernel
theorem cd_X11_isPart_4 : ylk m_X11_isPart.2.2.2.2.1 4 = some (.iload_n 0) := by decide +kernel
theorem cd_X11_isPart_5 : ylk m_X11_isPart.2.2.2.2.1 5 = some (.iconst 1) := by decide +kernel
theorem cd_X11_isPart_6 : ylk m_X11_isPart.2.2.2.2.1 6 = some (.if_icmp .ne 7) := by decide +kernel
theorem cd_X11_isPart_9 : ylk m_X11_isPart.2.2.2.2.1 9 = some (.iconst 1) := by decide +kernel
theorem cd_X11_isPart_10 : ylk m_X11_isPart.2.2.2.2.1 10 = some (.goto 4) := by decide +kernel
theorem cd_X11_isPart_13 : ylk m_X11_isPart.2.2.2.2.1 13 = some (.iconst 0) := by decide +kernel
theorem cd_X11_isPart_14 : ylk m_X11_isPart.2.2.2.2.1 14 = some (.ireturn) := by decide +kernel
noncomputable abbrev yb_X11_isPart (C : yC) : ySt → Option (Option Value × yM) := yrn m_X11_isPart C
theorem en_X11_isPart (n : Nat) (A : yM) (v0 : Int32) : ycall (n + 1) 99 [.int v0] A = if v0 = 0 then (if (1 : Int32) = 0 ∨ (1 : Int32) = 1 then some (some (.int (1 : Int32)), A) else none) else (if v0 = (1 : Int32) then (if (1 : Int32) = 0 ∨ (1 : Int32) = 1 then some (some (.int (1 : Int32)), A) else none) else (if (0 : Int32) = 0 ∨ (0 : Int32) = 1 then some (some (.int (0 : Int32)), A) else none)) := (ybig_blk 9 _).trans (z_iload_n cd_X11_isPart_0 (j := 0) rfl rfl (p := 1) rfl (zgo rfl (z_if_eq cd_X11_isPart_1 (p := 9) rfl (p2 := 4) rfl (zgo rfl (z_iconst cd_X11_isPart_9 ki_1 (p := 10) rfl (zgo rfl (z_goto cd_X11_isPart_10 (p := 14) rfl (zgo rfl (z_zret cd_X11_isPart_14 rfl)))))) (zgo rfl (z_iload_n cd_X11_isPart_4 (j := 0) rfl rfl (p := 5) rfl (zgo rfl (z_iconst cd_X11_isPart_5 ki_1 (p := 6) rfl (zgo rfl (z_ic_ne cd_X11_isPart_6 (p := 13) rfl (p2 := 9) rfl (zgo rfl (z_iconst cd_X11_isPart_9 ki_1 (p := 10) rfl (zgo rfl (z_goto cd_X11_isPart_10 (p := 14) rfl (zgo rfl (z_zret cd_X11_isPart_14 rfl)))))) (zgo rfl (z_iconst cd_X11_isPart_13 ki_0 (p := 14) rfl (zgo rfl (z_zret cd_X11_isPart_14 rfl)))))))))))))
theorem cd_X11_asLong_0 : ylk m_X11_asLong.2.2.2.2.1 0 = some (.ldc2_w 220) := by decide +kernel
theorem cd_X11_asLong_3 : ylk m_X11_asLong.2.2.2.2.1 3 = some (.iload_n 0) := by decide +kernel
theorem cd_X11_asLong_4 : ylk m_X11_asLong.2.2.2.2.1 4 = some (.i2l) := by decide +kernel
theorem cd_X11_asLong_5 : ylk m_X11_asLong.2.2.2.2.1 5 = some (.lsub) := by decide +kernel
theorem cd_X11_asLong_6 : ylk m_X11_asLong.2.2.2.2.1 6 = some (.lreturn) := by decide +kernel
noncomputable abbrev yb_X11_asLong (C : yC) : ySt → Option (Option Value × yM) := yrn m_X11_asLong C
theorem en_X11_asLong (n : Nat) (A : yM) (v0 : Int32) : ycall (n + 1) 100 [.int v0] A = some (some (.long ((1000000000 : Int64) - v0.toInt64)), A) := (ybig_blk 6 _).trans (z_ldc2_w cd_X11_asLong_0 ct_X11_220 (p := 3) rfl (zgo rfl (z_iload_n cd_X11_asLong_3 (j := 0) rfl rfl (p := 4) rfl (zgo rfl (z_i2l cd_X11_asLong_4 (p := 5) rfl (zgo rfl (z_lsub cd_X11_asLong_5 (p := 6) rfl (zgo rfl (z_lret cd_X11_asLong_6 rfl)))))))))
theorem cd_X11_partOfFraction_0 : ylk m_X11_partOfFraction.2.2.2.2.1 0 = some (.lload_n 0) := by decide +kernel
theorem cd_X11_partOfFraction_1 : ylk m_X11_partOfFraction.2.2.2.2.1 1 = some (.lload_n 2) := by decide +kernel
theorem cd_X11_partOfFraction_2 : ylk m_X11_partOfFraction.2.2.2.2.1 2 = some (.invokestatic 222) := by decide +kernel
theorem cd_X11_partOfFraction_5 : ylk m_X11_partOfFraction.2.2.2.2.1 5 = some (.lstore 5) := by decide +kernel
theorem cd_X11_partOfFraction_7 : ylk m_X11_partOfFraction.2.2.2.2.1 7 = some (.lload 5) := by decide +kernel
theorem cd_X11_partOfFraction_9 : ylk m_X11_partOfFraction.2.2.2.2.1 9 = some (.lconst 0) := by decide +kernel
theorem cd_X11_partOfFraction_10 : ylk m_X11_partOfFraction.2.2.2.2.1 10 = some (.lcmp) := by decide +kernel
theorem cd_X11_partOfFraction_11 : ylk m_X11_partOfFraction.2.2.2.2.1 11 = some (.ifCond .ne 7) := by decide +kernel
theorem cd_X11_partOfFraction_14 : ylk m_X11_partOfFraction.2.2.2.2.1 14 = some (.iload 4) := by decide +kernel
theorem cd_X11_partOfFraction_16 : ylk m_X11_partOfFraction.2.2.2.2.1 16 = some (.i2l) := by decide +kernel
theorem cd_X11_partOfFraction_17 : ylk m_X11_partOfFraction.2.2.2.2.1 17 = some (.lreturn) := by decide +kernel
theorem cd_X11_partOfFraction_18 : ylk m_X11_partOfFraction.2.2.2.2.1 18 = some (.iload 4) := by decide +kernel
theorem cd_X11_partOfFraction_20 : ylk m_X11_partOfFraction.2.2.2.2.1 20 = some (.ifCond .ne 7) := by decide +kernel
theorem cd_X11_partOfFraction_23 : ylk m_X11_partOfFraction.2.2.2.2.1 23 = some (.lload_n 0) := by decide +kernel
theorem cd_X11_partOfFraction_24 : ylk m_X11_partOfFraction.2.2.2.2.1 24 = some (.goto 4) := by decide +kernel
theorem cd_X11_partOfFraction_27 : ylk m_X11_partOfFraction.2.2.2.2.1 27 = some (.lload_n 2) := by decide +kernel
theorem cd_X11_partOfFraction_28 : ylk m_X11_partOfFraction.2.2.2.2.1 28 = some (.lload 5) := by decide +kernel
theorem cd_X11_partOfFraction_30 : ylk m_X11_partOfFraction.2.2.2.2.1 30 = some (.ldiv) := by decide +kernel
theorem cd_X11_partOfFraction_31 : ylk m_X11_partOfFraction.2.2.2.2.1 31 = some (.lreturn) := by decide +kernel
noncomputable abbrev yb_X11_partOfFraction (C : yC) : ySt → Option (Option Value × yM) := yrn m_X11_partOfFraction C
theorem en_X11_partOfFraction (n : Nat) (A : yM) (v0 : Int64) (v2 : Int64) (v4 : Int32) : ycall (n + 1) 101 [.long v0, .long v2, .int v4] A = (yl ((ycall n) 102 [.long v0, .long v2] A)).bind (fun z1 => if (lg_cmp z1.1 (0 : Int64)) = 0 then (some (some (.long v4.toInt64), z1.2)) else (if v4 = 0 then (if z1.1 = 0 then none else (some (some (.long (v0 / z1.1)), z1.2))) else (if z1.1 = 0 then none else (some (some (.long (v2 / z1.1)), z1.2))))) := (ybig_blk 16 _).trans (z_lload_n cd_X11_partOfFraction_0 (j := 0) rfl rfl (p := 1) rfl (zgo rfl (z_lload_n cd_X11_partOfFraction_1 (j := 2) rfl rfl (p := 2) rfl (zgo rfl (z_cs2 cd_X11_partOfFraction_2 (zs (key := 667) (by decide)) cl_X11_c667 rfl rfl rfl rfl (p := 5) rfl (fun _ => (zgo rfl (z_lstore cd_X11_partOfFraction_5 rfl (p := 7) rfl (zgo rfl (z_lload cd_X11_partOfFraction_7 rfl (p := 9) rfl (zgo rfl (z_lconst cd_X11_partOfFraction_9 kl_0 (p := 10) rfl (zgo rfl (z_lcmp cd_X11_partOfFraction_10 (p := 11) rfl (zgo rfl (z_if_ne cd_X11_partOfFraction_11 (p := 18) rfl (p2 := 14) rfl (zgo rfl (z_iload cd_X11_partOfFraction_14 rfl (p := 16) rfl (zgo rfl (z_i2l cd_X11_partOfFraction_16 (p := 17) rfl (zgo rfl (z_lret cd_X11_partOfFraction_17 rfl)))))) (zgo rfl (z_iload cd_X11_partOfFraction_18 rfl (p := 20) rfl (zgo rfl (z_if_ne cd_X11_partOfFraction_20 (p := 27) rfl (p2 := 23) rfl (zgo rfl (z_lload_n cd_X11_partOfFraction_23 (j := 0) rfl rfl (p := 24) rfl (zgo rfl (z_goto cd_X11_partOfFraction_24 (p := 28) rfl (zgo rfl (z_lload cd_X11_partOfFraction_28 rfl (p := 30) rfl (zgo rfl (z_ldiv cd_X11_partOfFraction_30 (p := 31) rfl (zgo rfl (z_lret cd_X11_partOfFraction_31 rfl)))))))))) (zgo rfl (z_lload_n cd_X11_partOfFraction_27 (j := 2) rfl rfl (p := 28) rfl (zgo rfl (z_lload cd_X11_partOfFraction_28 rfl (p := 30) rfl (zgo rfl (z_ldiv cd_X11_partOfFraction_30 (p := 31) rfl (zgo rfl (z_lret cd_X11_partOfFraction_31 rfl))))))))))))))))))))))))))))
theorem cd_X11_commonDivisor_0 : ylk m_X11_commonDivisor.2.2.2.2.1 0 = some (.lload_n 0) := by decide +kernel
theorem cd_X11_commonDivisor_1 : ylk m_X11_commonDivisor.2.2.2.2.1 1 = some (.lstore 4) := by decide +kernel
theorem cd_X11_commonDivisor_3 : ylk m_X11_commonDivisor.2.2.2.2.1 3 = some (.lload_n 2) := by decide +kernel
theorem cd_X11_commonDivisor_4 : ylk m_X11_commonDivisor.2.2.2.2.1 4 = some (.lstore 6) := by decide +kernel
theorem cd_X11_commonDivisor_6 : ylk m_X11_commonDivisor.2.2.2.2.1 6 = some (.iconst 0) := by decide +kernel
theorem cd_X11_commonDivisor_7 : ylk m_X11_commonDivisor.2.2.2.2.1 7 = some (.istore 8) := by decide +kernel
theorem cd_X11_commonDivisor_9 : ylk m_X11_commonDivisor.2.2.2.2.1 9 = some (.iload 8) := by decide +kernel
theorem cd_X11_commonDivisor_11 : ylk m_X11_commonDivisor.2.2.2.2.1 11 = some (.sipush 200) := by decide +kernel
theorem cd_X11_commonDivisor_14 : ylk m_X11_commonDivisor.2.2.2.2.1 14 = some (.if_icmp .ge 31) := by decide +kernel
theorem cd_X11_commonDivisor_17 : ylk m_X11_commonDivisor.2.2.2.2.1 17 = some (.lload 6) := by decide +kernel
theorem cd_X11_commonDivisor_19 : ylk m_X11_commonDivisor.2.2.2.2.1 19 = some (.lconst 0) := by decide +kernel
theorem cd_X11_commonDivisor_20 : ylk m_X11_commonDivisor.2.2.2.2.1 20 = some (.lcmp) := by decide +kernel
theorem cd_X11_commonDivisor_21 : ylk m_X11_commonDivisor.2.2.2.2.1 21 = some (.ifCond .eq 24) := by decide +kernel
theorem cd_X11_commonDivisor_24 : ylk m_X11_commonDivisor.2.2.2.2.1 24 = some (.lload 4) := by decide +kernel
theorem cd_X11_commonDivisor_26 : ylk m_X11_commonDivisor.2.2.2.2.1 26 = some (.lload 6) := by decide +kernel
theorem cd_X11_commonDivisor_28 : ylk m_X11_commonDivisor.2.2.2.2.1 28 = some (.lrem) := by decide +kernel
theorem cd_X11_commonDivisor_29 : ylk m_X11_commonDivisor.2.2.2.2.1 29 = some (.lstore 9) := by decide +kernel
theorem cd_X11_commonDivisor_31 : ylk m_X11_commonDivisor.2.2.2.2.1 31 = some (.lload 6) := by decide +kernel
theorem cd_X11_commonDivisor_33 : ylk m_X11_commonDivisor.2.2.2.2.1 33 = some (.lstore 4) := by decide +kernel
theorem cd_X11_commonDivisor_35 : ylk m_X11_commonDivisor.2.2.2.2.1 35 = some (.lload 9) := by decide +kernel
theorem cd_X11_commonDivisor_37 : ylk m_X11_commonDivisor.2.2.2.2.1 37 = some (.lstore 6) := by decide +kernel
theorem cd_X11_commonDivisor_39 : ylk m_X11_commonDivisor.2.2.2.2.1 39 = some (.iinc 8 1) := by decide +kernel
theorem cd_X11_commonDivisor_42 : ylk m_X11_commonDivisor.2.2.2.2.1 42 = some (.goto (-33)) := by decide +kernel
theorem cd_X11_commonDivisor_45 : ylk m_X11_commonDivisor.2.2.2.2.1 45 = some (.lload 4) := by decide +kernel
theorem cd_X11_commonDivisor_47 : ylk m_X11_commonDivisor.2.2.2.2.1 47 = some (.lreturn) := by decide +kernel
noncomputable abbrev yb_X11_commonDivisor (C : yC) : ySt → Option (Option Value × yM) := yrn m_X11_commonDivisor C
theorem en_X11_commonDivisor (n : Nat) (A : yM) (v0 : Int64) (v2 : Int64) : ycall (n + 1) 102 [.long v0, .long v2] A = yb_X11_commonDivisor (ycall n) (9, [none, none, none, none, some (.long v0), none, some (.long v2), none, some (.int (0 : Int32)), none, none], [], A) := (ybig_blk 7 _).trans (z_lload_n cd_X11_commonDivisor_0 (j := 0) rfl rfl (p := 1) rfl (zgo rfl (z_lstore cd_X11_commonDivisor_1 rfl (p := 3) rfl (zgo rfl (z_lload_n cd_X11_commonDivisor_3 (j := 2) rfl rfl (p := 4) rfl (zgo rfl (z_lstore cd_X11_commonDivisor_4 rfl (p := 6) rfl (zgo rfl (z_iconst cd_X11_commonDivisor_6 ki_0 (p := 7) rfl (zgo rfl (z_istore cd_X11_commonDivisor_7 rfl (p := 9) rfl (zcut (p := 9) rfl rfl))))))))))))
theorem bk_X11_commonDivisor_9 (C : yC) (A : yM) (v4 : Int64) (v6 : Int64) (v8 : Int32) : yb_X11_commonDivisor C (9, [none, none, none, none, some (.long v4), none, some (.long v6), none, some (.int v8), none, none], [], A) = if (200 : Int32) ≤ v8 then (some (some (.long v4), A)) else (if (lg_cmp v6 (0 : Int64)) = 0 then (some (some (.long v4), A)) else (if v6 = 0 then none else (yb_X11_commonDivisor C (9, [none, none, none, none, some (.long v6), none, some (.long (v4 - v4 / v6 * v6)), none, some (.int (v8 + (1 : Int32))), none, none], [], A)))) := (ybig_blk 18 _).trans (z_iload cd_X11_commonDivisor_9 rfl (p := 11) rfl (zgo rfl (z_sipush cd_X11_commonDivisor_11 ks_200 (p := 14) rfl (zgo rfl (z_ic_ge cd_X11_commonDivisor_14 (p := 45) rfl (p2 := 17) rfl (zgo rfl (z_lload cd_X11_commonDivisor_45 rfl (p := 47) rfl (zgo rfl (z_lret cd_X11_commonDivisor_47 rfl)))) (zgo rfl (z_lload cd_X11_commonDivisor_17 rfl (p := 19) rfl (zgo rfl (z_lconst cd_X11_commonDivisor_19 kl_0 (p := 20) rfl (zgo rfl (z_lcmp cd_X11_commonDivisor_20 (p := 21) rfl (zgo rfl (z_if_eq cd_X11_commonDivisor_21 (p := 45) rfl (p2 := 24) rfl (zgo rfl (z_lload cd_X11_commonDivisor_45 rfl (p := 47) rfl (zgo rfl (z_lret cd_X11_commonDivisor_47 rfl)))) (zgo rfl (z_lload cd_X11_commonDivisor_24 rfl (p := 26) rfl (zgo rfl (z_lload cd_X11_commonDivisor_26 rfl (p := 28) rfl (zgo rfl (z_lrem cd_X11_commonDivisor_28 (p := 29) rfl (zgo rfl (z_lstore cd_X11_commonDivisor_29 rfl (p := 31) rfl (zgo rfl (z_lload cd_X11_commonDivisor_31 rfl (p := 33) rfl (zgo rfl (z_lstore cd_X11_commonDivisor_33 rfl (p := 35) rfl (zgo rfl (z_lload cd_X11_commonDivisor_35 rfl (p := 37) rfl (zgo rfl (z_lstore cd_X11_commonDivisor_37 rfl (p := 39) rfl (zgo rfl (z_iinc cd_X11_commonDivisor_39 ki_1 rfl rfl (p := 42) rfl (zgo rfl (z_goto cd_X11_commonDivisor_42 (p := 9) rfl (zcut (p := 9) rfl rfl))))))))))))))))))))))))))))))))))
theorem cd_X11_votes_0 : ylk m_X11_votes.2.2.2.2.1 0 = some (.iload_n 1) := by decide +kernel
theorem cd_X11_votes_1 : ylk m_X11_votes.2.2.2.2.1 1 = some (.iconst (-1)) := by decide +kernel
theorem cd_X11_votes_2 : ylk m_X11_votes.2.2.2.2.1 2 = some (.if_icmp .ne 11) := by decide +kernel
theorem cd_X11_votes_5 : ylk m_X11_votes.2.2.2.2.1 5 = some (.aload_n 0) := by decide +kernel
theorem cd_X11_votes_6 : ylk m_X11_votes.2.2.2.2.1 6 = some (.getfield 12) := by decide +kernel
theorem cd_X11_votes_9 : ylk m_X11_votes.2.2.2.2.1 9 = some (.invokevirtual 226) := by decide +kernel
theorem cd_X11_votes_12 : ylk m_X11_votes.2.2.2.2.1 12 = some (.ireturn) := by decide +kernel
theorem cd_X11_votes_13 : ylk m_X11_votes.2.2.2.2.1 13 = some (.aload_n 0) := by decide +kernel
theorem cd_X11_votes_14 : ylk m_X11_votes.2.2.2.2.1 14 = some (.getfield 12) := by decide +kernel
theorem cd_X11_votes_17 : ylk m_X11_votes.2.2.2.2.1 17 = some (.iload_n 1) := by decide +kernel
theorem cd_X11_votes_18 : ylk m_X11_votes.2.2.2.2.1 18 = some (.invokevirtual 68) := by decide +kernel
theorem cd_X11_votes_21 : ylk m_X11_votes.2.2.2.2.1 21 = some (.ifCond .ne 5) := by decide +kernel
theorem cd_X11_votes_24 : ylk m_X11_votes.2.2.2.2.1 24 = some (.iconst (-1)) := by decide +kernel
theorem cd_X11_votes_25 : ylk m_X11_votes.2.2.2.2.1 25 = some (.ireturn) := by decide +kernel
theorem cd_X11_votes_26 : ylk m_X11_votes.2.2.2.2.1 26 = some (.aload_n 0) := by decide +kernel
theorem cd_X11_votes_27 : ylk m_X11_votes.2.2.2.2.1 27 = some (.getfield 12) := by decide +kernel
theorem cd_X11_votes_30 : ylk m_X11_votes.2.2.2.2.1 30 = some (.invokevirtual 229) := by decide +kernel
theorem cd_X11_votes_33 : ylk m_X11_votes.2.2.2.2.1 33 = some (.aload_n 0) := by decide +kernel
theorem cd_X11_votes_34 : ylk m_X11_votes.2.2.2.2.1 34 = some (.getfield 12) := by decide +kernel
theorem cd_X11_votes_37 : ylk m_X11_votes.2.2.2.2.1 37 = some (.getfield 232) := by decide +kernel
theorem cd_X11_votes_40 : ylk m_X11_votes.2.2.2.2.1 40 = some (.iload_n 1) := by decide +kernel
theorem cd_X11_votes_41 : ylk m_X11_votes.2.2.2.2.1 41 = some (.iaload) := by decide +kernel
theorem cd_X11_votes_42 : ylk m_X11_votes.2.2.2.2.1 42 = some (.ireturn) := by decide +kernel
noncomputable abbrev yb_X11_votes (C : yC) : ySt → Option (Option Value × yM) := yrn m_X11_votes C
theorem en_X11_votes (n : Nat) (A : yM) (v0 : Nat) (v1 : Int32) : ycall (n + 1) 103 [.ref v0, .int v1] A = if v1 = (-1 : Int32) then (ygR A v0 10 0 (fun a8 => (yi (yvt [(0, 32)] (ycall n) [.ref a8] A)).bind (fun z9 => some (some (.int z9.1), z9.2)))) else (ygR A v0 10 0 (fun a1 => (yi (yvt [(0, 1)] (ycall n) [.ref a1, .int v1] A)).bind (fun z2 => if z2.1 = 0 then (some (some (.int (-1 : Int32)), z2.2)) else (ygR z2.2 v0 10 0 (fun a3 => (yv (yvt [(0, 30)] (ycall n) [.ref a3] z2.2)).bind (fun A4 => ygR A4 v0 10 0 (fun a5 => ygR A4 a5 0 14 (fun a6 => yrd A4 a6 v1 (fun x7 => some (some (.int x7), A4)))))))))) := (ybig_blk 18 _).trans (z_iload_n cd_X11_votes_0 (j := 1) rfl rfl (p := 1) rfl (zgo rfl (z_iconst cd_X11_votes_1 ki_m1 (p := 2) rfl (zgo rfl (z_ic_ne cd_X11_votes_2 (p := 13) rfl (p2 := 5) rfl (zgo rfl (z_aload_n cd_X11_votes_5 (j := 0) rfl rfl (p := 6) rfl (zgo rfl (z_getR cd_X11_votes_6 fd_X11_12 (p := 9) rfl (fun _ => (zgo rfl (z_cv1 cd_X11_votes_9 (zv (key := 678) (by decide)) cl_X11_c678 rfl rfl rfl rfl (p := 12) rfl (fun _ => (zgo rfl (z_iret cd_X11_votes_12 rfl)))))))))) (zgo rfl (z_aload_n cd_X11_votes_13 (j := 0) rfl rfl (p := 14) rfl (zgo rfl (z_getR cd_X11_votes_14 fd_X11_12 (p := 17) rfl (fun _ => (zgo rfl (z_iload_n cd_X11_votes_17 (j := 1) rfl rfl (p := 18) rfl (zgo rfl (z_cv1 cd_X11_votes_18 (zv (key := 204) (by decide)) cl_X11_c204 rfl rfl rfl rfl (p := 21) rfl (fun _ => (zgo rfl (z_if_ne cd_X11_votes_21 (p := 26) rfl (p2 := 24) rfl (zgo rfl (z_iconst cd_X11_votes_24 ki_m1 (p := 25) rfl (zgo rfl (z_iret cd_X11_votes_25 rfl)))) (zgo rfl (z_aload_n cd_X11_votes_26 (j := 0) rfl rfl (p := 27) rfl (zgo rfl (z_getR cd_X11_votes_27 fd_X11_12 (p := 30) rfl (fun _ => (zgo rfl (z_cv0 cd_X11_votes_30 (zv (key := 687) (by decide)) cl_X11_c687 rfl rfl rfl rfl (p := 33) rfl (fun _ => (zgo rfl (z_aload_n cd_X11_votes_33 (j := 0) rfl rfl (p := 34) rfl (zgo rfl (z_getR cd_X11_votes_34 fd_X11_12 (p := 37) rfl (fun _ => (zgo rfl (z_getR cd_X11_votes_37 fd_X11_232 (p := 40) rfl (fun _ => (zgo rfl (z_iload_n cd_X11_votes_40 (j := 1) rfl rfl (p := 41) rfl (zgo rfl (z_iaload cd_X11_votes_41 (p := 42) rfl (fun _ => (zgo rfl (z_iret cd_X11_votes_42 rfl))))))))))))))))))))))))))))))))))))))))
theorem cd_X11_slips_0 : ylk m_X11_slips.2.2.2.2.1 0 = some (.aload_n 0) := by decide +kernel
theorem cd_X11_slips_1 : ylk m_X11_slips.2.2.2.2.1 1 = some (.getfield 12) := by decide +kernel
theorem cd_X11_slips_4 : ylk m_X11_slips.2.2.2.2.1 4 = some (.iload_n 1) := by decide +kernel
theorem cd_X11_slips_5 : ylk m_X11_slips.2.2.2.2.1 5 = some (.invokevirtual 68) := by decide +kernel
theorem cd_X11_slips_8 : ylk m_X11_slips.2.2.2.2.1 8 = some (.ifCond .ne 5) := by decide +kernel
theorem cd_X11_slips_11 : ylk m_X11_slips.2.2.2.2.1 11 = some (.iconst (-1)) := by decide +kernel
theorem cd_X11_slips_12 : ylk m_X11_slips.2.2.2.2.1 12 = some (.ireturn) := by decide +kernel
theorem cd_X11_slips_13 : ylk m_X11_slips.2.2.2.2.1 13 = some (.aload_n 0) := by decide +kernel
theorem cd_X11_slips_14 : ylk m_X11_slips.2.2.2.2.1 14 = some (.getfield 12) := by decide +kernel
theorem cd_X11_slips_17 : ylk m_X11_slips.2.2.2.2.1 17 = some (.iload_n 1) := by decide +kernel
theorem cd_X11_slips_18 : ylk m_X11_slips.2.2.2.2.1 18 = some (.invokevirtual 78) := by decide +kernel
theorem cd_X11_slips_21 : ylk m_X11_slips.2.2.2.2.1 21 = some (.ifCond .ne 6) := by decide +kernel
theorem cd_X11_slips_24 : ylk m_X11_slips.2.2.2.2.1 24 = some (.bipush (-4)) := by decide +kernel
theorem cd_X11_slips_26 : ylk m_X11_slips.2.2.2.2.1 26 = some (.ireturn) := by decide +kernel
theorem cd_X11_slips_27 : ylk m_X11_slips.2.2.2.2.1 27 = some (.aload_n 0) := by decide +kernel
theorem cd_X11_slips_28 : ylk m_X11_slips.2.2.2.2.1 28 = some (.getfield 12) := by decide +kernel
theorem cd_X11_slips_31 : ylk m_X11_slips.2.2.2.2.1 31 = some (.invokevirtual 229) := by decide +kernel
theorem cd_X11_slips_34 : ylk m_X11_slips.2.2.2.2.1 34 = some (.iconst 0) := by decide +kernel
theorem cd_X11_slips_35 : ylk m_X11_slips.2.2.2.2.1 35 = some (.istore_n 2) := by decide +kernel
theorem cd_X11_slips_36 : ylk m_X11_slips.2.2.2.2.1 36 = some (.iload_n 2) := by decide +kernel
theorem cd_X11_slips_37 : ylk m_X11_slips.2.2.2.2.1 37 = some (.bipush 6) := by decide +kernel
theorem cd_X11_slips_39 : ylk m_X11_slips.2.2.2.2.1 39 = some (.if_icmp .ge 22) := by decide +kernel
theorem cd_X11_slips_42 : ylk m_X11_slips.2.2.2.2.1 42 = some (.aload_n 0) := by decide +kernel
theorem cd_X11_slips_43 : ylk m_X11_slips.2.2.2.2.1 43 = some (.getfield 12) := by decide +kernel
theorem cd_X11_slips_46 : ylk m_X11_slips.2.2.2.2.1 46 = some (.iload_n 1) := by decide +kernel
theorem cd_X11_slips_47 : ylk m_X11_slips.2.2.2.2.1 47 = some (.iload_n 2) := by decide +kernel
theorem cd_X11_slips_48 : ylk m_X11_slips.2.2.2.2.1 48 = some (.invokevirtual 235) := by decide +kernel
theorem cd_X11_slips_51 : ylk m_X11_slips.2.2.2.2.1 51 = some (.iload_n 2) := by decide +kernel
theorem cd_X11_slips_52 : ylk m_X11_slips.2.2.2.2.1 52 = some (.if_icmp .le 9) := by decide +kernel
theorem cd_X11_slips_55 : ylk m_X11_slips.2.2.2.2.1 55 = some (.iinc 2 1) := by decide +kernel
theorem cd_X11_slips_58 : ylk m_X11_slips.2.2.2.2.1 58 = some (.goto (-22)) := by decide +kernel
theorem cd_X11_slips_61 : ylk m_X11_slips.2.2.2.2.1 61 = some (.iload_n 2) := by decide +kernel
theorem cd_X11_slips_62 : ylk m_X11_slips.2.2.2.2.1 62 = some (.ireturn) := by decide +kernel
noncomputable abbrev yb_X11_slips (C : yC) : ySt → Option (Option Value × yM) := yrn m_X11_slips C
theorem en_X11_slips (n : Nat) (A : yM) (v0 : Nat) (v1 : Int32) : ycall (n + 1) 104 [.ref v0, .int v1] A = ygR A v0 10 0 (fun a1 => (yi (yvt [(0, 1)] (ycall n) [.ref a1, .int v1] A)).bind (fun z2 => if z2.1 = 0 then (some (some (.int (-1 : Int32)), z2.2)) else (ygR z2.2 v0 10 0 (fun a3 => (yi (yvt [(0, 3)] (ycall n) [.ref a3, .int v1] z2.2)).bind (fun z4 => if z4.1 = 0 then (some (some (.int (-4 : Int32)), z4.2)) else (ygR z4.2 v0 10 0 (fun a5 => (yv (yvt [(0, 30)] (ycall n) [.ref a5] z4.2)).bind (fun A6 => yb_X11_slips (ycall n) (36, [some (.ref v0), some (.int v1), some (.int (0 : Int32))], [], A6))))))))) := (ybig_blk 16 _).trans (z_aload_n cd_X11_slips_0 (j := 0) rfl rfl (p := 1) rfl (zgo rfl (z_getR cd_X11_slips_1 fd_X11_12 (p := 4) rfl (fun _ => (zgo rfl (z_iload_n cd_X11_slips_4 (j := 1) rfl rfl (p := 5) rfl (zgo rfl (z_cv1 cd_X11_slips_5 (zv (key := 204) (by decide)) cl_X11_c204 rfl rfl rfl rfl (p := 8) rfl (fun _ => (zgo rfl (z_if_ne cd_X11_slips_8 (p := 13) rfl (p2 := 11) rfl (zgo rfl (z_iconst cd_X11_slips_11 ki_m1 (p := 12) rfl (zgo rfl (z_iret cd_X11_slips_12 rfl)))) (zgo rfl (z_aload_n cd_X11_slips_13 (j := 0) rfl rfl (p := 14) rfl (zgo rfl (z_getR cd_X11_slips_14 fd_X11_12 (p := 17) rfl (fun _ => (zgo rfl (z_iload_n cd_X11_slips_17 (j := 1) rfl rfl (p := 18) rfl (zgo rfl (z_cv1 cd_X11_slips_18 (zv (key := 234) (by decide)) cl_X11_c234 rfl rfl rfl rfl (p := 21) rfl (fun _ => (zgo rfl (z_if_ne cd_X11_slips_21 (p := 27) rfl (p2 := 24) rfl (zgo rfl (z_bipush cd_X11_slips_24 kb_m4 (p := 26) rfl (zgo rfl (z_iret cd_X11_slips_26 rfl)))) (zgo rfl (z_aload_n cd_X11_slips_27 (j := 0) rfl rfl (p := 28) rfl (zgo rfl (z_getR cd_X11_slips_28 fd_X11_12 (p := 31) rfl (fun _ => (zgo rfl (z_cv0 cd_X11_slips_31 (zv (key := 687) (by decide)) cl_X11_c687 rfl rfl rfl rfl (p := 34) rfl (fun _ => (zgo rfl (z_iconst cd_X11_slips_34 ki_0 (p := 35) rfl (zgo rfl (z_istore_n cd_X11_slips_35 (j := 2) rfl rfl (p := 36) rfl (zcut (p := 36) rfl rfl))))))))))))))))))))))))))))))))))))
theorem bk_X11_slips_36 (C : yC) (A : yM) (v0 : Nat) (v1 : Int32) (v2 : Int32) : yb_X11_slips C (36, [some (.ref v0), some (.int v1), some (.int v2)], [], A) = if (6 : Int32) ≤ v2 then (some (some (.int v2), A)) else (ygR A v0 10 0 (fun a1 => (yi (yvt [(0, 33)] C [.ref a1, .int v1, .int v2] A)).bind (fun z2 => if z2.1 ≤ v2 then (some (some (.int v2), z2.2)) else (yb_X11_slips C (36, [some (.ref v0), some (.int v1), some (.int (v2 + (1 : Int32)))], [], z2.2))))) := (ybig_blk 13 _).trans (z_iload_n cd_X11_slips_36 (j := 2) rfl rfl (p := 37) rfl (zgo rfl (z_bipush cd_X11_slips_37 kb_6 (p := 39) rfl (zgo rfl (z_ic_ge cd_X11_slips_39 (p := 61) rfl (p2 := 42) rfl (zgo rfl (z_iload_n cd_X11_slips_61 (j := 2) rfl rfl (p := 62) rfl (zgo rfl (z_iret cd_X11_slips_62 rfl)))) (zgo rfl (z_aload_n cd_X11_slips_42 (j := 0) rfl rfl (p := 43) rfl (zgo rfl (z_getR cd_X11_slips_43 fd_X11_12 (p := 46) rfl (fun _ => (zgo rfl (z_iload_n cd_X11_slips_46 (j := 1) rfl rfl (p := 47) rfl (zgo rfl (z_iload_n cd_X11_slips_47 (j := 2) rfl rfl (p := 48) rfl (zgo rfl (z_cv1 cd_X11_slips_48 (zv (key := 705) (by decide)) cl_X11_c705 rfl rfl rfl rfl (p := 51) rfl (fun _ => (zgo rfl (z_iload_n cd_X11_slips_51 (j := 2) rfl rfl (p := 52) rfl (zgo rfl (z_ic_le cd_X11_slips_52 (p := 61) rfl (p2 := 55) rfl (zgo rfl (z_iload_n cd_X11_slips_61 (j := 2) rfl rfl (p := 62) rfl (zgo rfl (z_iret cd_X11_slips_62 rfl)))) (zgo rfl (z_iinc cd_X11_slips_55 ki_1 rfl rfl (p := 58) rfl (zgo rfl (z_goto cd_X11_slips_58 (p := 36) rfl (zcut (p := 36) rfl rfl))))))))))))))))))))))))))
theorem cd_X11_examiners_0 : ylk m_X11_examiners.2.2.2.2.1 0 = some (.iload_n 1) := by decide +kernel
theorem cd_X11_examiners_1 : ylk m_X11_examiners.2.2.2.2.1 1 = some (.iconst (-1)) := by decide +kernel
theorem cd_X11_examiners_2 : ylk m_X11_examiners.2.2.2.2.1 2 = some (.if_icmp .eq 16) := by decide +kernel
theorem cd_X11_examiners_5 : ylk m_X11_examiners.2.2.2.2.1 5 = some (.aload_n 0) := by decide +kernel
theorem cd_X11_examiners_6 : ylk m_X11_examiners.2.2.2.2.1 6 = some (.getfield 12) := by decide +kernel
theorem cd_X11_examiners_9 : ylk m_X11_examiners.2.2.2.2.1 9 = some (.iload_n 1) := by decide +kernel
theorem cd_X11_examiners_10 : ylk m_X11_examiners.2.2.2.2.1 10 = some (.invokevirtual 90) := by decide +kernel
theorem cd_X11_examiners_13 : ylk m_X11_examiners.2.2.2.2.1 13 = some (.ifCond .ne 5) := by decide +kernel
theorem cd_X11_examiners_16 : ylk m_X11_examiners.2.2.2.2.1 16 = some (.iconst (-1)) := by decide +kernel
theorem cd_X11_examiners_17 : ylk m_X11_examiners.2.2.2.2.1 17 = some (.ireturn) := by decide +kernel
theorem cd_X11_examiners_18 : ylk m_X11_examiners.2.2.2.2.1 18 = some (.aload_n 0) := by decide +kernel
theorem cd_X11_examiners_19 : ylk m_X11_examiners.2.2.2.2.1 19 = some (.invokevirtual 238) := by decide +kernel
theorem cd_X11_examiners_22 : ylk m_X11_examiners.2.2.2.2.1 22 = some (.iload_n 1) := by decide +kernel
theorem cd_X11_examiners_23 : ylk m_X11_examiners.2.2.2.2.1 23 = some (.iconst (-1)) := by decide +kernel
theorem cd_X11_examiners_24 : ylk m_X11_examiners.2.2.2.2.1 24 = some (.if_icmp .ne 12) := by decide +kernel
theorem cd_X11_examiners_27 : ylk m_X11_examiners.2.2.2.2.1 27 = some (.aload_n 0) := by decide +kernel
theorem cd_X11_examiners_28 : ylk m_X11_examiners.2.2.2.2.1 28 = some (.getfield 40) := by decide +kernel
theorem cd_X11_examiners_31 : ylk m_X11_examiners.2.2.2.2.1 31 = some (.iconst 0) := by decide +kernel
theorem cd_X11_examiners_32 : ylk m_X11_examiners.2.2.2.2.1 32 = some (.iaload) := by decide +kernel
theorem cd_X11_examiners_33 : ylk m_X11_examiners.2.2.2.2.1 33 = some (.goto 8) := by decide +kernel
theorem cd_X11_examiners_36 : ylk m_X11_examiners.2.2.2.2.1 36 = some (.aload_n 0) := by decide +kernel
theorem cd_X11_examiners_37 : ylk m_X11_examiners.2.2.2.2.1 37 = some (.iload_n 1) := by decide +kernel
theorem cd_X11_examiners_38 : ylk m_X11_examiners.2.2.2.2.1 38 = some (.invokevirtual 241) := by decide +kernel
theorem cd_X11_examiners_41 : ylk m_X11_examiners.2.2.2.2.1 41 = some (.ireturn) := by decide +kernel
noncomputable abbrev yb_X11_examiners (C : yC) : ySt → Option (Option Value × yM) := yrn m_X11_examiners C
theorem en_X11_examiners (n : Nat) (A : yM) (v0 : Nat) (v1 : Int32) : ycall (n + 1) 105 [.ref v0, .int v1] A = if v1 = (-1 : Int32) then (yb_X11_examiners (ycall n) (18, [some (.ref v0), some (.int v1)], [], A)) else (ygR A v0 10 0 (fun a1 => (yi (yvt [(0, 2)] (ycall n) [.ref a1, .int v1] A)).bind (fun z2 => if z2.1 = 0 then (some (some (.int (-1 : Int32)), z2.2)) else (yb_X11_examiners (ycall n) (18, [some (.ref v0), some (.int v1)], [], z2.2))))) := (ybig_blk 11 _).trans (z_iload_n cd_X11_examiners_0 (j := 1) rfl rfl (p := 1) rfl (zgo rfl (z_iconst cd_X11_examiners_1 ki_m1 (p := 2) rfl (zgo rfl (z_ic_eq cd_X11_examiners_2 (p := 18) rfl (p2 := 5) rfl (zcut (p := 18) rfl rfl) (zgo rfl (z_aload_n cd_X11_examiners_5 (j := 0) rfl rfl (p := 6) rfl (zgo rfl (z_getR cd_X11_examiners_6 fd_X11_12 (p := 9) rfl (fun _ => (zgo rfl (z_iload_n cd_X11_examiners_9 (j := 1) rfl rfl (p := 10) rfl (zgo rfl (z_cv1 cd_X11_examiners_10 (zv (key := 270) (by decide)) cl_X11_c270 rfl rfl rfl rfl (p := 13) rfl (fun _ => (zgo rfl (z_if_ne cd_X11_examiners_13 (p := 18) rfl (p2 := 16) rfl (zgo rfl (z_iconst cd_X11_examiners_16 ki_m1 (p := 17) rfl (zgo rfl (z_iret cd_X11_examiners_17 rfl)))) (zcut (p := 18) rfl rfl))))))))))))))))))
theorem bk_X11_examiners_18 (C : yC) (A : yM) (v0 : Nat) (v1 : Int32) : yb_X11_examiners C (18, [some (.ref v0), some (.int v1)], [], A) = (yv (yvt [(10, 106)] C [.ref v0] A)).bind (fun A1 => if v1 = (-1 : Int32) then (ygR A1 v0 10 7 (fun a3 => yrd A1 a3 (0 : Int32) (fun x4 => some (some (.int x4), A1)))) else ((yi (yvt [(10, 109)] C [.ref v0, .int v1] A1)).bind (fun z2 => some (some (.int z2.1), z2.2)))) := (ybig_blk 12 _).trans (z_aload_n cd_X11_examiners_18 (j := 0) rfl rfl (p := 19) rfl (zgo rfl (z_cv0 cd_X11_examiners_19 (zv (key := 714) (by decide)) cl_X11_c714 rfl rfl rfl rfl (p := 22) rfl (fun _ => (zgo rfl (z_iload_n cd_X11_examiners_22 (j := 1) rfl rfl (p := 23) rfl (zgo rfl (z_iconst cd_X11_examiners_23 ki_m1 (p := 24) rfl (zgo rfl (z_ic_ne cd_X11_examiners_24 (p := 36) rfl (p2 := 27) rfl (zgo rfl (z_aload_n cd_X11_examiners_27 (j := 0) rfl rfl (p := 28) rfl (zgo rfl (z_getR cd_X11_examiners_28 fd_X11_40 (p := 31) rfl (fun _ => (zgo rfl (z_iconst cd_X11_examiners_31 ki_0 (p := 32) rfl (zgo rfl (z_iaload cd_X11_examiners_32 (p := 33) rfl (fun _ => (zgo rfl (z_goto cd_X11_examiners_33 (p := 41) rfl (zgo rfl (z_iret cd_X11_examiners_41 rfl)))))))))))))) (zgo rfl (z_aload_n cd_X11_examiners_36 (j := 0) rfl rfl (p := 37) rfl (zgo rfl (z_iload_n cd_X11_examiners_37 (j := 1) rfl rfl (p := 38) rfl (zgo rfl (z_cv1 cd_X11_examiners_38 (zv (key := 723) (by decide)) cl_X11_c723 rfl rfl rfl rfl (p := 41) rfl (fun _ => (zgo rfl (z_iret cd_X11_examiners_41 rfl)))))))))))))))))))
theorem cd_X11_tellMarkable_0 : ylk m_X11_tellMarkable.2.2.2.2.1 0 = some (.iconst 1) := by decide +kernel
theorem cd_X11_tellMarkable_1 : ylk m_X11_tellMarkable.2.2.2.2.1 1 = some (.aload_n 0) := by decide +kernel
theorem cd_X11_tellMarkable_2 : ylk m_X11_tellMarkable.2.2.2.2.1 2 = some (.getfield 12) := by decide +kernel
theorem cd_X11_tellMarkable_5 : ylk m_X11_tellMarkable.2.2.2.2.1 5 = some (.getfield 244) := by decide +kernel
theorem cd_X11_tellMarkable_8 : ylk m_X11_tellMarkable.2.2.2.2.1 8 = some (.ishl) := by decide +kernel
theorem cd_X11_tellMarkable_9 : ylk m_X11_tellMarkable.2.2.2.2.1 9 = some (.istore_n 1) := by decide +kernel
theorem cd_X11_tellMarkable_10 : ylk m_X11_tellMarkable.2.2.2.2.1 10 = some (.iconst 0) := by decide +kernel
theorem cd_X11_tellMarkable_11 : ylk m_X11_tellMarkable.2.2.2.2.1 11 = some (.istore_n 2) := by decide +kernel
theorem cd_X11_tellMarkable_12 : ylk m_X11_tellMarkable.2.2.2.2.1 12 = some (.iload_n 2) := by decide +kernel
theorem cd_X11_tellMarkable_13 : ylk m_X11_tellMarkable.2.2.2.2.1 13 = some (.iload_n 1) := by decide +kernel
theorem cd_X11_tellMarkable_14 : ylk m_X11_tellMarkable.2.2.2.2.1 14 = some (.if_icmp .ge 27) := by decide +kernel
theorem cd_X11_tellMarkable_17 : ylk m_X11_tellMarkable.2.2.2.2.1 17 = some (.aload_n 0) := by decide +kernel
theorem cd_X11_tellMarkable_18 : ylk m_X11_tellMarkable.2.2.2.2.1 18 = some (.getfield 40) := by decide +kernel
theorem cd_X11_tellMarkable_21 : ylk m_X11_tellMarkable.2.2.2.2.1 21 = some (.aload_n 0) := by decide +kernel
theorem cd_X11_tellMarkable_22 : ylk m_X11_tellMarkable.2.2.2.2.1 22 = some (.getfield 12) := by decide +kernel
theorem cd_X11_tellMarkable_25 : ylk m_X11_tellMarkable.2.2.2.2.1 25 = some (.getfield 158) := by decide +kernel
theorem cd_X11_tellMarkable_28 : ylk m_X11_tellMarkable.2.2.2.2.1 28 = some (.bipush 64) := by decide +kernel
theorem cd_X11_tellMarkable_30 : ylk m_X11_tellMarkable.2.2.2.2.1 30 = some (.imul) := by decide +kernel
theorem cd_X11_tellMarkable_31 : ylk m_X11_tellMarkable.2.2.2.2.1 31 = some (.iload_n 2) := by decide +kernel
theorem cd_X11_tellMarkable_32 : ylk m_X11_tellMarkable.2.2.2.2.1 32 = some (.iadd) := by decide +kernel
theorem cd_X11_tellMarkable_33 : ylk m_X11_tellMarkable.2.2.2.2.1 33 = some (.iconst 0) := by decide +kernel
theorem cd_X11_tellMarkable_34 : ylk m_X11_tellMarkable.2.2.2.2.1 34 = some (.iastore) := by decide +kernel
theorem cd_X11_tellMarkable_35 : ylk m_X11_tellMarkable.2.2.2.2.1 35 = some (.iinc 2 1) := by decide +kernel
theorem cd_X11_tellMarkable_38 : ylk m_X11_tellMarkable.2.2.2.2.1 38 = some (.goto (-26)) := by decide +kernel
theorem cd_X11_tellMarkable_41 : ylk m_X11_tellMarkable.2.2.2.2.1 41 = some (.aload_n 0) := by decide +kernel
theorem cd_X11_tellMarkable_42 : ylk m_X11_tellMarkable.2.2.2.2.1 42 = some (.getfield 12) := by decide +kernel
theorem cd_X11_tellMarkable_45 : ylk m_X11_tellMarkable.2.2.2.2.1 45 = some (.getfield 158) := by decide +kernel
theorem cd_X11_tellMarkable_48 : ylk m_X11_tellMarkable.2.2.2.2.1 48 = some (.iconst 1) := by decide +kernel
theorem cd_X11_tellMarkable_49 : ylk m_X11_tellMarkable.2.2.2.2.1 49 = some (.isub) := by decide +kernel
theorem cd_X11_tellMarkable_50 : ylk m_X11_tellMarkable.2.2.2.2.1 50 = some (.istore_n 2) := by decide +kernel
theorem cd_X11_tellMarkable_51 : ylk m_X11_tellMarkable.2.2.2.2.1 51 = some (.iload_n 2) := by decide +kernel
theorem cd_X11_tellMarkable_52 : ylk m_X11_tellMarkable.2.2.2.2.1 52 = some (.ifCond .lt 39) := by decide +kernel
theorem cd_X11_tellMarkable_55 : ylk m_X11_tellMarkable.2.2.2.2.1 55 = some (.iconst 0) := by decide +kernel
theorem cd_X11_tellMarkable_56 : ylk m_X11_tellMarkable.2.2.2.2.1 56 = some (.istore_n 3) := by decide +kernel
theorem cd_X11_tellMarkable_57 : ylk m_X11_tellMarkable.2.2.2.2.1 57 = some (.iload_n 3) := by decide +kernel
theorem cd_X11_tellMarkable_58 : ylk m_X11_tellMarkable.2.2.2.2.1 58 = some (.iload_n 1) := by decide +kernel
theorem cd_X11_tellMarkable_59 : ylk m_X11_tellMarkable.2.2.2.2.1 59 = some (.if_icmp .ge 26) := by decide +kernel
theorem cd_X11_tellMarkable_62 : ylk m_X11_tellMarkable.2.2.2.2.1 62 = some (.aload_n 0) := by decide +kernel
theorem cd_X11_tellMarkable_63 : ylk m_X11_tellMarkable.2.2.2.2.1 63 = some (.getfield 40) := by decide +kernel
theorem cd_X11_tellMarkable_66 : ylk m_X11_tellMarkable.2.2.2.2.1 66 = some (.iload_n 2) := by decide +kernel
theorem cd_X11_tellMarkable_67 : ylk m_X11_tellMarkable.2.2.2.2.1 67 = some (.bipush 64) := by decide +kernel
theorem cd_X11_tellMarkable_69 : ylk m_X11_tellMarkable.2.2.2.2.1 69 = some (.imul) := by decide +kernel
theorem cd_X11_tellMarkable_70 : ylk m_X11_tellMarkable.2.2.2.2.1 70 = some (.iload_n 3) := by decide +kernel
theorem cd_X11_tellMarkable_71 : ylk m_X11_tellMarkable.2.2.2.2.1 71 = some (.iadd) := by decide +kernel
theorem cd_X11_tellMarkable_72 : ylk m_X11_tellMarkable.2.2.2.2.1 72 = some (.aload_n 0) := by decide +kernel
theorem cd_X11_tellMarkable_73 : ylk m_X11_tellMarkable.2.2.2.2.1 73 = some (.iload_n 2) := by decide +kernel
theorem cd_X11_tellMarkable_74 : ylk m_X11_tellMarkable.2.2.2.2.1 74 = some (.iload_n 3) := by decide +kernel
theorem cd_X11_tellMarkable_75 : ylk m_X11_tellMarkable.2.2.2.2.1 75 = some (.invokevirtual 247) := by decide +kernel
theorem cd_X11_tellMarkable_78 : ylk m_X11_tellMarkable.2.2.2.2.1 78 = some (.iastore) := by decide +kernel
theorem cd_X11_tellMarkable_79 : ylk m_X11_tellMarkable.2.2.2.2.1 79 = some (.iinc 3 1) := by decide +kernel
theorem cd_X11_tellMarkable_82 : ylk m_X11_tellMarkable.2.2.2.2.1 82 = some (.goto (-25)) := by decide +kernel
theorem cd_X11_tellMarkable_85 : ylk m_X11_tellMarkable.2.2.2.2.1 85 = some (.iinc 2 (-1)) := by decide +kernel
theorem cd_X11_tellMarkable_88 : ylk m_X11_tellMarkable.2.2.2.2.1 88 = some (.goto (-37)) := by decide +kernel
theorem cd_X11_tellMarkable_91 : ylk m_X11_tellMarkable.2.2.2.2.1 91 = some (.return_) := by decide +kernel
noncomputable abbrev yb_X11_tellMarkable (C : yC) : ySt → Option (Option Value × yM) := yrn m_X11_tellMarkable C
theorem en_X11_tellMarkable (n : Nat) (A : yM) (v0 : Nat) : ycall (n + 1) 106 [.ref v0] A = ygR A v0 10 0 (fun a1 => ygI A a1 0 1 (fun x2 => yb_X11_tellMarkable (ycall n) (12, [some (.ref v0), some (.int ((1 : Int32) <<< (x2 &&& 31))), some (.int (0 : Int32)), none], [], A))) := (ybig_blk 9 _).trans (z_iconst cd_X11_tellMarkable_0 ki_1 (p := 1) rfl (zgo rfl (z_aload_n cd_X11_tellMarkable_1 (j := 0) rfl rfl (p := 2) rfl (zgo rfl (z_getR cd_X11_tellMarkable_2 fd_X11_12 (p := 5) rfl (fun _ => (zgo rfl (z_getI cd_X11_tellMarkable_5 fd_X11_244 (p := 8) rfl (fun _ => (zgo rfl (z_ishl cd_X11_tellMarkable_8 (p := 9) rfl (zgo rfl (z_istore_n cd_X11_tellMarkable_9 (j := 1) rfl rfl (p := 10) rfl (zgo rfl (z_iconst cd_X11_tellMarkable_10 ki_0 (p := 11) rfl (zgo rfl (z_istore_n cd_X11_tellMarkable_11 (j := 2) rfl rfl (p := 12) rfl (zcut (p := 12) rfl rfl))))))))))))))))))
theorem bk_X11_tellMarkable_12 (C : yC) (A : yM) (v0 : Nat) (v1 : Int32) (v2 : Int32) : yb_X11_tellMarkable C (12, [some (.ref v0), some (.int v1), some (.int v2), none], [], A) = if v1 ≤ v2 then (ygR A v0 10 0 (fun a1 => ygI A a1 0 5 (fun x2 => yb_X11_tellMarkable C (51, [some (.ref v0), some (.int v1), some (.int (x2 - (1 : Int32))), none], [], A)))) else (ygR A v0 10 7 (fun a3 => ygR A v0 10 0 (fun a4 => ygI A a4 0 5 (fun x5 => ywr A a3 ((x5 * (64 : Int32)) + v2) (0 : Int32) (fun A6 => yb_X11_tellMarkable C (12, [some (.ref v0), some (.int v1), some (.int (v2 + (1 : Int32))), none], [], A6)))))) := (ybig_blk 17 _).trans (z_iload_n cd_X11_tellMarkable_12 (j := 2) rfl rfl (p := 13) rfl (zgo rfl (z_iload_n cd_X11_tellMarkable_13 (j := 1) rfl rfl (p := 14) rfl (zgo rfl (z_ic_ge cd_X11_tellMarkable_14 (p := 41) rfl (p2 := 17) rfl (zgo rfl (z_aload_n cd_X11_tellMarkable_41 (j := 0) rfl rfl (p := 42) rfl (zgo rfl (z_getR cd_X11_tellMarkable_42 fd_X11_12 (p := 45) rfl (fun _ => (zgo rfl (z_getI cd_X11_tellMarkable_45 fd_X11_158 (p := 48) rfl (fun _ => (zgo rfl (z_iconst cd_X11_tellMarkable_48 ki_1 (p := 49) rfl (zgo rfl (z_isub cd_X11_tellMarkable_49 (p := 50) rfl (zgo rfl (z_istore_n cd_X11_tellMarkable_50 (j := 2) rfl rfl (p := 51) rfl (zcut (p := 51) rfl rfl))))))))))))))) (zgo rfl (z_aload_n cd_X11_tellMarkable_17 (j := 0) rfl rfl (p := 18) rfl (zgo rfl (z_getR cd_X11_tellMarkable_18 fd_X11_40 (p := 21) rfl (fun _ => (zgo rfl (z_aload_n cd_X11_tellMarkable_21 (j := 0) rfl rfl (p := 22) rfl (zgo rfl (z_getR cd_X11_tellMarkable_22 fd_X11_12 (p := 25) rfl (fun _ => (zgo rfl (z_getI cd_X11_tellMarkable_25 fd_X11_158 (p := 28) rfl (fun _ => (zgo rfl (z_bipush cd_X11_tellMarkable_28 kb_64 (p := 30) rfl (zgo rfl (z_imul cd_X11_tellMarkable_30 (p := 31) rfl (zgo rfl (z_iload_n cd_X11_tellMarkable_31 (j := 2) rfl rfl (p := 32) rfl (zgo rfl (z_iadd cd_X11_tellMarkable_32 (p := 33) rfl (zgo rfl (z_iconst cd_X11_tellMarkable_33 ki_0 (p := 34) rfl (zgo rfl (z_iastore cd_X11_tellMarkable_34 (p := 35) rfl (fun _ => (zgo rfl (z_iinc cd_X11_tellMarkable_35 ki_1 rfl rfl (p := 38) rfl (zgo rfl (z_goto cd_X11_tellMarkable_38 (p := 12) rfl (zcut (p := 12) rfl rfl))))))))))))))))))))))))))))))))))))
theorem bk_X11_tellMarkable_51 (C : yC) (A : yM) (v0 : Nat) (v1 : Int32) (v2 : Int32) : yb_X11_tellMarkable C (51, [some (.ref v0), some (.int v1), some (.int v2), none], [], A) = if v2 < 0 then (some (none, A)) else (yb_X11_tellMarkable C (57, [some (.ref v0), some (.int v1), some (.int v2), some (.int (0 : Int32))], [], A)) := (ybig_blk 5 _).trans (z_iload_n cd_X11_tellMarkable_51 (j := 2) rfl rfl (p := 52) rfl (zgo rfl (z_if_lt cd_X11_tellMarkable_52 (p := 91) rfl (p2 := 55) rfl (zgo rfl (z_ret cd_X11_tellMarkable_91 rfl)) (zgo rfl (z_iconst cd_X11_tellMarkable_55 ki_0 (p := 56) rfl (zgo rfl (z_istore_n cd_X11_tellMarkable_56 (j := 3) rfl rfl (p := 57) rfl (zcut (p := 57) rfl rfl))))))))
theorem bk_X11_tellMarkable_57 (C : yC) (A : yM) (v0 : Nat) (v1 : Int32) (v2 : Int32) (v3 : Int32) : yb_X11_tellMarkable C (57, [some (.ref v0), some (.int v1), some (.int v2), some (.int v3)], [], A) = if v1 ≤ v3 then (yb_X11_tellMarkable C (51, [some (.ref v0), some (.int v1), some (.int (v2 + (-1 : Int32))), none], [], A)) else (ygR A v0 10 7 (fun a1 => (yi (yvt [(10, 107)] C [.ref v0, .int v2, .int v3] A)).bind (fun z2 => ywr z2.2 a1 ((v2 * (64 : Int32)) + v3) z2.1 (fun A3 => yb_X11_tellMarkable C (57, [some (.ref v0), some (.int v1), some (.int v2), some (.int (v3 + (1 : Int32)))], [], A3))))) := (ybig_blk 18 _).trans (z_iload_n cd_X11_tellMarkable_57 (j := 3) rfl rfl (p := 58) rfl (zgo rfl (z_iload_n cd_X11_tellMarkable_58 (j := 1) rfl rfl (p := 59) rfl (zgo rfl (z_ic_ge cd_X11_tellMarkable_59 (p := 85) rfl (p2 := 62) rfl (zgo rfl (z_iinc cd_X11_tellMarkable_85 ki_m1 rfl rfl (p := 88) rfl (zgo rfl (z_goto cd_X11_tellMarkable_88 (p := 51) rfl (zcut (p := 51) rfl rfl))))) (zgo rfl (z_aload_n cd_X11_tellMarkable_62 (j := 0) rfl rfl (p := 63) rfl (zgo rfl (z_getR cd_X11_tellMarkable_63 fd_X11_40 (p := 66) rfl (fun _ => (zgo rfl (z_iload_n cd_X11_tellMarkable_66 (j := 2) rfl rfl (p := 67) rfl (zgo rfl (z_bipush cd_X11_tellMarkable_67 kb_64 (p := 69) rfl (zgo rfl (z_imul cd_X11_tellMarkable_69 (p := 70) rfl (zgo rfl (z_iload_n cd_X11_tellMarkable_70 (j := 3) rfl rfl (p := 71) rfl (zgo rfl (z_iadd cd_X11_tellMarkable_71 (p := 72) rfl (zgo rfl (z_aload_n cd_X11_tellMarkable_72 (j := 0) rfl rfl (p := 73) rfl (zgo rfl (z_iload_n cd_X11_tellMarkable_73 (j := 2) rfl rfl (p := 74) rfl (zgo rfl (z_iload_n cd_X11_tellMarkable_74 (j := 3) rfl rfl (p := 75) rfl (zgo rfl (z_cv1 cd_X11_tellMarkable_75 (zv (key := 741) (by decide)) cl_X11_c741 rfl rfl rfl rfl (p := 78) rfl (fun _ => (zgo rfl (z_iastore cd_X11_tellMarkable_78 (p := 79) rfl (fun _ => (zgo rfl (z_iinc cd_X11_tellMarkable_79 ki_1 rfl rfl (p := 82) rfl (zgo rfl (z_goto cd_X11_tellMarkable_82 (p := 57) rfl (zcut (p := 57) rfl rfl)))))))))))))))))))))))))))))))))))))
theorem cd_X11_mostMarkable_0 : ylk m_X11_mostMarkable.2.2.2.2.1 0 = some (.aload_n 0) := by decide +kernel
theorem cd_X11_mostMarkable_1 : ylk m_X11_mostMarkable.2.2.2.2.1 1 = some (.getfield 40) := by decide +kernel
theorem cd_X11_mostMarkable_4 : ylk m_X11_mostMarkable.2.2.2.2.1 4 = some (.iload_n 1) := by decide +kernel
theorem cd_X11_mostMarkable_5 : ylk m_X11_mostMarkable.2.2.2.2.1 5 = some (.iconst 1) := by decide +kernel
theorem cd_X11_mostMarkable_6 : ylk m_X11_mostMarkable.2.2.2.2.1 6 = some (.iadd) := by decide +kernel
theorem cd_X11_mostMarkable_7 : ylk m_X11_mostMarkable.2.2.2.2.1 7 = some (.bipush 64) := by decide +kernel
theorem cd_X11_mostMarkable_9 : ylk m_X11_mostMarkable.2.2.2.2.1 9 = some (.imul) := by decide +kernel
theorem cd_X11_mostMarkable_10 : ylk m_X11_mostMarkable.2.2.2.2.1 10 = some (.iload_n 2) := by decide +kernel
theorem cd_X11_mostMarkable_11 : ylk m_X11_mostMarkable.2.2.2.2.1 11 = some (.iadd) := by decide +kernel
theorem cd_X11_mostMarkable_12 : ylk m_X11_mostMarkable.2.2.2.2.1 12 = some (.iaload) := by decide +kernel
theorem cd_X11_mostMarkable_13 : ylk m_X11_mostMarkable.2.2.2.2.1 13 = some (.istore_n 3) := by decide +kernel
theorem cd_X11_mostMarkable_14 : ylk m_X11_mostMarkable.2.2.2.2.1 14 = some (.iconst 0) := by decide +kernel
theorem cd_X11_mostMarkable_15 : ylk m_X11_mostMarkable.2.2.2.2.1 15 = some (.istore 4) := by decide +kernel
theorem cd_X11_mostMarkable_17 : ylk m_X11_mostMarkable.2.2.2.2.1 17 = some (.iload 4) := by decide +kernel
theorem cd_X11_mostMarkable_19 : ylk m_X11_mostMarkable.2.2.2.2.1 19 = some (.aload_n 0) := by decide +kernel
theorem cd_X11_mostMarkable_20 : ylk m_X11_mostMarkable.2.2.2.2.1 20 = some (.getfield 12) := by decide +kernel
theorem cd_X11_mostMarkable_23 : ylk m_X11_mostMarkable.2.2.2.2.1 23 = some (.getfield 244) := by decide +kernel
theorem cd_X11_mostMarkable_26 : ylk m_X11_mostMarkable.2.2.2.2.1 26 = some (.if_icmp .ge 45) := by decide +kernel
theorem cd_X11_mostMarkable_29 : ylk m_X11_mostMarkable.2.2.2.2.1 29 = some (.aload_n 0) := by decide +kernel
theorem cd_X11_mostMarkable_30 : ylk m_X11_mostMarkable.2.2.2.2.1 30 = some (.iload 4) := by decide +kernel
theorem cd_X11_mostMarkable_32 : ylk m_X11_mostMarkable.2.2.2.2.1 32 = some (.iload_n 1) := by decide +kernel
theorem cd_X11_mostMarkable_33 : ylk m_X11_mostMarkable.2.2.2.2.1 33 = some (.iload_n 2) := by decide +kernel
theorem cd_X11_mostMarkable_34 : ylk m_X11_mostMarkable.2.2.2.2.1 34 = some (.invokevirtual 250) := by decide +kernel
theorem cd_X11_mostMarkable_37 : ylk m_X11_mostMarkable.2.2.2.2.1 37 = some (.ifCond .eq 28) := by decide +kernel
theorem cd_X11_mostMarkable_40 : ylk m_X11_mostMarkable.2.2.2.2.1 40 = some (.iload_n 3) := by decide +kernel
theorem cd_X11_mostMarkable_41 : ylk m_X11_mostMarkable.2.2.2.2.1 41 = some (.iconst 1) := by decide +kernel
theorem cd_X11_mostMarkable_42 : ylk m_X11_mostMarkable.2.2.2.2.1 42 = some (.aload_n 0) := by decide +kernel
theorem cd_X11_mostMarkable_43 : ylk m_X11_mostMarkable.2.2.2.2.1 43 = some (.getfield 40) := by decide +kernel
theorem cd_X11_mostMarkable_46 : ylk m_X11_mostMarkable.2.2.2.2.1 46 = some (.iload_n 1) := by decide +kernel
theorem cd_X11_mostMarkable_47 : ylk m_X11_mostMarkable.2.2.2.2.1 47 = some (.iconst 1) := by decide +kernel
theorem cd_X11_mostMarkable_48 : ylk m_X11_mostMarkable.2.2.2.2.1 48 = some (.iadd) := by decide +kernel
theorem cd_X11_mostMarkable_49 : ylk m_X11_mostMarkable.2.2.2.2.1 49 = some (.bipush 64) := by decide +kernel
theorem cd_X11_mostMarkable_51 : ylk m_X11_mostMarkable.2.2.2.2.1 51 = some (.imul) := by decide +kernel
theorem cd_X11_mostMarkable_52 : ylk m_X11_mostMarkable.2.2.2.2.1 52 = some (.iload_n 2) := by decide +kernel
theorem cd_X11_mostMarkable_53 : ylk m_X11_mostMarkable.2.2.2.2.1 53 = some (.iconst 1) := by decide +kernel
theorem cd_X11_mostMarkable_54 : ylk m_X11_mostMarkable.2.2.2.2.1 54 = some (.iload 4) := by decide +kernel
theorem cd_X11_mostMarkable_56 : ylk m_X11_mostMarkable.2.2.2.2.1 56 = some (.ishl) := by decide +kernel
theorem cd_X11_mostMarkable_57 : ylk m_X11_mostMarkable.2.2.2.2.1 57 = some (.ior) := by decide +kernel
theorem cd_X11_mostMarkable_58 : ylk m_X11_mostMarkable.2.2.2.2.1 58 = some (.iadd) := by decide +kernel
theorem cd_X11_mostMarkable_59 : ylk m_X11_mostMarkable.2.2.2.2.1 59 = some (.iaload) := by decide +kernel
theorem cd_X11_mostMarkable_60 : ylk m_X11_mostMarkable.2.2.2.2.1 60 = some (.iadd) := by decide +kernel
theorem cd_X11_mostMarkable_61 : ylk m_X11_mostMarkable.2.2.2.2.1 61 = some (.invokestatic 215) := by decide +kernel
theorem cd_X11_mostMarkable_64 : ylk m_X11_mostMarkable.2.2.2.2.1 64 = some (.istore_n 3) := by decide +kernel
theorem cd_X11_mostMarkable_65 : ylk m_X11_mostMarkable.2.2.2.2.1 65 = some (.iinc 4 1) := by decide +kernel
theorem cd_X11_mostMarkable_68 : ylk m_X11_mostMarkable.2.2.2.2.1 68 = some (.goto (-51)) := by decide +kernel
theorem cd_X11_mostMarkable_71 : ylk m_X11_mostMarkable.2.2.2.2.1 71 = some (.iload_n 3) := by decide +kernel
theorem cd_X11_mostMarkable_72 : ylk m_X11_mostMarkable.2.2.2.2.1 72 = some (.ireturn) := by decide +kernel
noncomputable abbrev yb_X11_mostMarkable (C : yC) : ySt → Option (Option Value × yM) := yrn m_X11_mostMarkable C
theorem en_X11_mostMarkable (n : Nat) (A : yM) (v0 : Nat) (v1 : Int32) (v2 : Int32) : ycall (n + 1) 107 [.ref v0, .int v1, .int v2] A = ygR A v0 10 7 (fun a1 => yrd A a1 (((v1 + (1 : Int32)) * (64 : Int32)) + v2) (fun x2 => yb_X11_mostMarkable (ycall n) (17, [some (.ref v0), some (.int v1), some (.int v2), some (.int x2), some (.int (0 : Int32))], [], A))) := (ybig_blk 14 _).trans (z_aload_n cd_X11_mostMarkable_0 (j := 0) rfl rfl (p := 1) rfl (zgo rfl (z_getR cd_X11_mostMarkable_1 fd_X11_40 (p := 4) rfl (fun _ => (zgo rfl (z_iload_n cd_X11_mostMarkable_4 (j := 1) rfl rfl (p := 5) rfl (zgo rfl (z_iconst cd_X11_mostMarkable_5 ki_1 (p := 6) rfl (zgo rfl (z_iadd cd_X11_mostMarkable_6 (p := 7) rfl (zgo rfl (z_bipush cd_X11_mostMarkable_7 kb_64 (p := 9) rfl (zgo rfl (z_imul cd_X11_mostMarkable_9 (p := 10) rfl (zgo rfl (z_iload_n cd_X11_mostMarkable_10 (j := 2) rfl rfl (p := 11) rfl (zgo rfl (z_iadd cd_X11_mostMarkable_11 (p := 12) rfl (zgo rfl (z_iaload cd_X11_mostMarkable_12 (p := 13) rfl (fun _ => (zgo rfl (z_istore_n cd_X11_mostMarkable_13 (j := 3) rfl rfl (p := 14) rfl (zgo rfl (z_iconst cd_X11_mostMarkable_14 ki_0 (p := 15) rfl (zgo rfl (z_istore cd_X11_mostMarkable_15 rfl (p := 17) rfl (zcut (p := 17) rfl rfl))))))))))))))))))))))))))))
theorem bk_X11_mostMarkable_17 (C : yC) (A : yM) (v0 : Nat) (v1 : Int32) (v2 : Int32) (v3 : Int32) (v4 : Int32) : yb_X11_mostMarkable C (17, [some (.ref v0), some (.int v1), some (.int v2), some (.int v3), some (.int v4)], [], A) = ygR A v0 10 0 (fun a1 => ygI A a1 0 1 (fun x2 => if x2 ≤ v4 then (some (some (.int v3), A)) else ((yi (yvt [(10, 108)] C [.ref v0, .int v4, .int v1, .int v2] A)).bind (fun z3 => if z3.1 = 0 then (yb_X11_mostMarkable C (17, [some (.ref v0), some (.int v1), some (.int v2), some (.int v3), some (.int (v4 + (1 : Int32)))], [], z3.2)) else (ygR z3.2 v0 10 7 (fun a4 => yrd z3.2 a4 (((v1 + (1 : Int32)) * (64 : Int32)) + (v2 ||| ((1 : Int32) <<< (v4 &&& 31)))) (fun x5 => yb_X11_mostMarkable C (17, [some (.ref v0), some (.int v1), some (.int v2), some (.int (if v3 < ((1 : Int32) + x5) then ((1 : Int32) + x5) else v3)), some (.int (v4 + (1 : Int32)))], [], z3.2)))))))) := (ybig_blk 33 _).trans (z_iload cd_X11_mostMarkable_17 rfl (p := 19) rfl (zgo rfl (z_aload_n cd_X11_mostMarkable_19 (j := 0) rfl rfl (p := 20) rfl (zgo rfl (z_getR cd_X11_mostMarkable_20 fd_X11_12 (p := 23) rfl (fun _ => (zgo rfl (z_getI cd_X11_mostMarkable_23 fd_X11_244 (p := 26) rfl (fun _ => (zgo rfl (z_ic_ge cd_X11_mostMarkable_26 (p := 71) rfl (p2 := 29) rfl (zgo rfl (z_iload_n cd_X11_mostMarkable_71 (j := 3) rfl rfl (p := 72) rfl (zgo rfl (z_iret cd_X11_mostMarkable_72 rfl)))) (zgo rfl (z_aload_n cd_X11_mostMarkable_29 (j := 0) rfl rfl (p := 30) rfl (zgo rfl (z_iload cd_X11_mostMarkable_30 rfl (p := 32) rfl (zgo rfl (z_iload_n cd_X11_mostMarkable_32 (j := 1) rfl rfl (p := 33) rfl (zgo rfl (z_iload_n cd_X11_mostMarkable_33 (j := 2) rfl rfl (p := 34) rfl (zgo rfl (z_cv1 cd_X11_mostMarkable_34 (zv (key := 750) (by decide)) cl_X11_c750 rfl rfl rfl rfl (p := 37) rfl (fun _ => (zgo rfl (z_if_eq cd_X11_mostMarkable_37 (p := 65) rfl (p2 := 40) rfl (zgo rfl (z_iinc cd_X11_mostMarkable_65 ki_1 rfl rfl (p := 68) rfl (zgo rfl (z_goto cd_X11_mostMarkable_68 (p := 17) rfl (zcut (p := 17) rfl rfl))))) (zgo rfl (z_iload_n cd_X11_mostMarkable_40 (j := 3) rfl rfl (p := 41) rfl (zgo rfl (z_iconst cd_X11_mostMarkable_41 ki_1 (p := 42) rfl (zgo rfl (z_aload_n cd_X11_mostMarkable_42 (j := 0) rfl rfl (p := 43) rfl (zgo rfl (z_getR cd_X11_mostMarkable_43 fd_X11_40 (p := 46) rfl (fun _ => (zgo rfl (z_iload_n cd_X11_mostMarkable_46 (j := 1) rfl rfl (p := 47) rfl (zgo rfl (z_iconst cd_X11_mostMarkable_47 ki_1 (p := 48) rfl (zgo rfl (z_iadd cd_X11_mostMarkable_48 (p := 49) rfl (zgo rfl (z_bipush cd_X11_mostMarkable_49 kb_64 (p := 51) rfl (zgo rfl (z_imul cd_X11_mostMarkable_51 (p := 52) rfl (zgo rfl (z_iload_n cd_X11_mostMarkable_52 (j := 2) rfl rfl (p := 53) rfl (zgo rfl (z_iconst cd_X11_mostMarkable_53 ki_1 (p := 54) rfl (zgo rfl (z_iload cd_X11_mostMarkable_54 rfl (p := 56) rfl (zgo rfl (z_ishl cd_X11_mostMarkable_56 (p := 57) rfl (zgo rfl (z_ior cd_X11_mostMarkable_57 (p := 58) rfl (zgo rfl (z_iadd cd_X11_mostMarkable_58 (p := 59) rfl (zgo rfl (z_iaload cd_X11_mostMarkable_59 (p := 60) rfl (fun _ => (zgo rfl (z_iadd cd_X11_mostMarkable_60 (p := 61) rfl (zgo rfl (z_max cd_X11_mostMarkable_61 (zs (key := 646) (by decide)) cl_X11_c646 rfl (p := 64) rfl (zgo rfl (z_istore_n cd_X11_mostMarkable_64 (j := 3) rfl rfl (p := 65) rfl (zgo rfl (z_iinc cd_X11_mostMarkable_65 ki_1 rfl rfl (p := 68) rfl (zgo rfl (z_goto cd_X11_mostMarkable_68 (p := 17) rfl (zcut (p := 17) rfl rfl)))))))))))))))))))))))))))))))))))))))))))))))))))))))))))))))))))))
theorem cd_X11_mayMark_0 : ylk m_X11_mayMark.2.2.2.2.1 0 = some (.aload_n 0) := by decide +kernel
theorem cd_X11_mayMark_1 : ylk m_X11_mayMark.2.2.2.2.1 1 = some (.getfield 12) := by decide +kernel
theorem cd_X11_mayMark_4 : ylk m_X11_mayMark.2.2.2.2.1 4 = some (.iload_n 1) := by decide +kernel
theorem cd_X11_mayMark_5 : ylk m_X11_mayMark.2.2.2.2.1 5 = some (.invokevirtual 78) := by decide +kernel
theorem cd_X11_mayMark_8 : ylk m_X11_mayMark.2.2.2.2.1 8 = some (.ifCond .eq 39) := by decide +kernel
theorem cd_X11_mayMark_11 : ylk m_X11_mayMark.2.2.2.2.1 11 = some (.iload_n 3) := by decide +kernel
theorem cd_X11_mayMark_12 : ylk m_X11_mayMark.2.2.2.2.1 12 = some (.iload_n 1) := by decide +kernel
theorem cd_X11_mayMark_13 : ylk m_X11_mayMark.2.2.2.2.1 13 = some (.ishr) := by decide +kernel
theorem cd_X11_mayMark_14 : ylk m_X11_mayMark.2.2.2.2.1 14 = some (.iconst 1) := by decide +kernel
theorem cd_X11_mayMark_15 : ylk m_X11_mayMark.2.2.2.2.1 15 = some (.iand) := by decide +kernel
theorem cd_X11_mayMark_16 : ylk m_X11_mayMark.2.2.2.2.1 16 = some (.ifCond .ne 31) := by decide +kernel
theorem cd_X11_mayMark_19 : ylk m_X11_mayMark.2.2.2.2.1 19 = some (.aload_n 0) := by decide +kernel
theorem cd_X11_mayMark_20 : ylk m_X11_mayMark.2.2.2.2.1 20 = some (.getfield 12) := by decide +kernel
theorem cd_X11_mayMark_23 : ylk m_X11_mayMark.2.2.2.2.1 23 = some (.getfield 93) := by decide +kernel
theorem cd_X11_mayMark_26 : ylk m_X11_mayMark.2.2.2.2.1 26 = some (.iload_n 2) := by decide +kernel
theorem cd_X11_mayMark_27 : ylk m_X11_mayMark.2.2.2.2.1 27 = some (.iaload) := by decide +kernel
theorem cd_X11_mayMark_28 : ylk m_X11_mayMark.2.2.2.2.1 28 = some (.iload_n 1) := by decide +kernel
theorem cd_X11_mayMark_29 : ylk m_X11_mayMark.2.2.2.2.1 29 = some (.if_icmp .eq 18) := by decide +kernel
theorem cd_X11_mayMark_32 : ylk m_X11_mayMark.2.2.2.2.1 32 = some (.aload_n 0) := by decide +kernel
theorem cd_X11_mayMark_33 : ylk m_X11_mayMark.2.2.2.2.1 33 = some (.getfield 12) := by decide +kernel
theorem cd_X11_mayMark_36 : ylk m_X11_mayMark.2.2.2.2.1 36 = some (.iload_n 2) := by decide +kernel
theorem cd_X11_mayMark_37 : ylk m_X11_mayMark.2.2.2.2.1 37 = some (.invokevirtual 105) := by decide +kernel
theorem cd_X11_mayMark_40 : ylk m_X11_mayMark.2.2.2.2.1 40 = some (.ifCond .ne 7) := by decide +kernel
theorem cd_X11_mayMark_43 : ylk m_X11_mayMark.2.2.2.2.1 43 = some (.iconst 1) := by decide +kernel
theorem cd_X11_mayMark_44 : ylk m_X11_mayMark.2.2.2.2.1 44 = some (.goto 4) := by decide +kernel
theorem cd_X11_mayMark_47 : ylk m_X11_mayMark.2.2.2.2.1 47 = some (.iconst 0) := by decide +kernel
theorem cd_X11_mayMark_48 : ylk m_X11_mayMark.2.2.2.2.1 48 = some (.ireturn) := by decide +kernel
noncomputable abbrev yb_X11_mayMark (C : yC) : ySt → Option (Option Value × yM) := yrn m_X11_mayMark C
theorem en_X11_mayMark (n : Nat) (A : yM) (v0 : Nat) (v1 : Int32) (v2 : Int32) (v3 : Int32) : ycall (n + 1) 108 [.ref v0, .int v1, .int v2, .int v3] A = ygR A v0 10 0 (fun a1 => (yi (yvt [(0, 3)] (ycall n) [.ref a1, .int v1] A)).bind (fun z2 => if z2.1 = 0 then (if (0 : Int32) = 0 ∨ (0 : Int32) = 1 then some (some (.int (0 : Int32)), z2.2) else none) else (if ((v3 >>> (v1 &&& 31)) &&& (1 : Int32)) = 0 then (ygR z2.2 v0 10 0 (fun a3 => ygR z2.2 a3 0 6 (fun a4 => yrd z2.2 a4 v2 (fun x5 => if x5 = v1 then (if (0 : Int32) = 0 ∨ (0 : Int32) = 1 then some (some (.int (0 : Int32)), z2.2) else none) else (ygR z2.2 v0 10 0 (fun a6 => (yi (yvt [(0, 4)] (ycall n) [.ref a6, .int v2] z2.2)).bind (fun z7 => if z7.1 = 0 then (if (1 : Int32) = 0 ∨ (1 : Int32) = 1 then some (some (.int (1 : Int32)), z7.2) else none) else (if (0 : Int32) = 0 ∨ (0 : Int32) = 1 then some (some (.int (0 : Int32)), z7.2) else none)))))))) else (if (0 : Int32) = 0 ∨ (0 : Int32) = 1 then some (some (.int (0 : Int32)), z2.2) else none)))) := (ybig_blk 27 _).trans (z_aload_n cd_X11_mayMark_0 (j := 0) rfl rfl (p := 1) rfl (zgo rfl (z_getR cd_X11_mayMark_1 fd_X11_12 (p := 4) rfl (fun _ => (zgo rfl (z_iload_n cd_X11_mayMark_4 (j := 1) rfl rfl (p := 5) rfl (zgo rfl (z_cv1 cd_X11_mayMark_5 (zv (key := 234) (by decide)) cl_X11_c234 rfl rfl rfl rfl (p := 8) rfl (fun _ => (zgo rfl (z_if_eq cd_X11_mayMark_8 (p := 47) rfl (p2 := 11) rfl (zgo rfl (z_iconst cd_X11_mayMark_47 ki_0 (p := 48) rfl (zgo rfl (z_zret cd_X11_mayMark_48 rfl)))) (zgo rfl (z_iload_n cd_X11_mayMark_11 (j := 3) rfl rfl (p := 12) rfl (zgo rfl (z_iload_n cd_X11_mayMark_12 (j := 1) rfl rfl (p := 13) rfl (zgo rfl (z_ishr cd_X11_mayMark_13 (p := 14) rfl (zgo rfl (z_iconst cd_X11_mayMark_14 ki_1 (p := 15) rfl (zgo rfl (z_iand cd_X11_mayMark_15 (p := 16) rfl (zgo rfl (z_if_ne cd_X11_mayMark_16 (p := 47) rfl (p2 := 19) rfl (zgo rfl (z_aload_n cd_X11_mayMark_19 (j := 0) rfl rfl (p := 20) rfl (zgo rfl (z_getR cd_X11_mayMark_20 fd_X11_12 (p := 23) rfl (fun _ => (zgo rfl (z_getR cd_X11_mayMark_23 fd_X11_93 (p := 26) rfl (fun _ => (zgo rfl (z_iload_n cd_X11_mayMark_26 (j := 2) rfl rfl (p := 27) rfl (zgo rfl (z_iaload cd_X11_mayMark_27 (p := 28) rfl (fun _ => (zgo rfl (z_iload_n cd_X11_mayMark_28 (j := 1) rfl rfl (p := 29) rfl (zgo rfl (z_ic_eq cd_X11_mayMark_29 (p := 47) rfl (p2 := 32) rfl (zgo rfl (z_iconst cd_X11_mayMark_47 ki_0 (p := 48) rfl (zgo rfl (z_zret cd_X11_mayMark_48 rfl)))) (zgo rfl (z_aload_n cd_X11_mayMark_32 (j := 0) rfl rfl (p := 33) rfl (zgo rfl (z_getR cd_X11_mayMark_33 fd_X11_12 (p := 36) rfl (fun _ => (zgo rfl (z_iload_n cd_X11_mayMark_36 (j := 2) rfl rfl (p := 37) rfl (zgo rfl (z_cv1 cd_X11_mayMark_37 (zv (key := 315) (by decide)) cl_X11_c315 rfl rfl rfl rfl (p := 40) rfl (fun _ => (zgo rfl (z_if_ne cd_X11_mayMark_40 (p := 47) rfl (p2 := 43) rfl (zgo rfl (z_iconst cd_X11_mayMark_43 ki_1 (p := 44) rfl (zgo rfl (z_goto cd_X11_mayMark_44 (p := 48) rfl (zgo rfl (z_zret cd_X11_mayMark_48 rfl)))))) (zgo rfl (z_iconst cd_X11_mayMark_47 ki_0 (p := 48) rfl (zgo rfl (z_zret cd_X11_mayMark_48 rfl))))))))))))))))))))))))))))))))) (zgo rfl (z_iconst cd_X11_mayMark_47 ki_0 (p := 48) rfl (zgo rfl (z_zret cd_X11_mayMark_48 rfl)))))))))))))))))))))))))))
theorem cd_X11_examinerOf_0 : ylk m_X11_examinerOf.2.2.2.2.1 0 = some (.iconst 0) := by decide +kernel
theorem cd_X11_examinerOf_1 : ylk m_X11_examinerOf.2.2.2.2.1 1 = some (.istore_n 2) := by decide +kernel
theorem cd_X11_examinerOf_2 : ylk m_X11_examinerOf.2.2.2.2.1 2 = some (.bipush (-4)) := by decide +kernel
theorem cd_X11_examinerOf_4 : ylk m_X11_examinerOf.2.2.2.2.1 4 = some (.istore_n 3) := by decide +kernel
theorem cd_X11_examinerOf_5 : ylk m_X11_examinerOf.2.2.2.2.1 5 = some (.iconst 0) := by decide +kernel
theorem cd_X11_examinerOf_6 : ylk m_X11_examinerOf.2.2.2.2.1 6 = some (.istore 4) := by decide +kernel
theorem cd_X11_examinerOf_8 : ylk m_X11_examinerOf.2.2.2.2.1 8 = some (.iload 4) := by decide +kernel
theorem cd_X11_examinerOf_10 : ylk m_X11_examinerOf.2.2.2.2.1 10 = some (.iload_n 1) := by decide +kernel
theorem cd_X11_examinerOf_11 : ylk m_X11_examinerOf.2.2.2.2.1 11 = some (.if_icmp .gt 27) := by decide +kernel
theorem cd_X11_examinerOf_14 : ylk m_X11_examinerOf.2.2.2.2.1 14 = some (.aload_n 0) := by decide +kernel
theorem cd_X11_examinerOf_15 : ylk m_X11_examinerOf.2.2.2.2.1 15 = some (.iload 4) := by decide +kernel
theorem cd_X11_examinerOf_17 : ylk m_X11_examinerOf.2.2.2.2.1 17 = some (.iload_n 2) := by decide +kernel
theorem cd_X11_examinerOf_18 : ylk m_X11_examinerOf.2.2.2.2.1 18 = some (.invokevirtual 254) := by decide +kernel
theorem cd_X11_examinerOf_21 : ylk m_X11_examinerOf.2.2.2.2.1 21 = some (.istore_n 3) := by decide +kernel
theorem cd_X11_examinerOf_22 : ylk m_X11_examinerOf.2.2.2.2.1 22 = some (.iload_n 3) := by decide +kernel
theorem cd_X11_examinerOf_23 : ylk m_X11_examinerOf.2.2.2.2.1 23 = some (.ifCond .lt 9) := by decide +kernel
theorem cd_X11_examinerOf_26 : ylk m_X11_examinerOf.2.2.2.2.1 26 = some (.iload_n 2) := by decide +kernel
theorem cd_X11_examinerOf_27 : ylk m_X11_examinerOf.2.2.2.2.1 27 = some (.iconst 1) := by decide +kernel
theorem cd_X11_examinerOf_28 : ylk m_X11_examinerOf.2.2.2.2.1 28 = some (.iload_n 3) := by decide +kernel
theorem cd_X11_examinerOf_29 : ylk m_X11_examinerOf.2.2.2.2.1 29 = some (.ishl) := by decide +kernel
theorem cd_X11_examinerOf_30 : ylk m_X11_examinerOf.2.2.2.2.1 30 = some (.ior) := by decide +kernel
theorem cd_X11_examinerOf_31 : ylk m_X11_examinerOf.2.2.2.2.1 31 = some (.istore_n 2) := by decide +kernel
theorem cd_X11_examinerOf_32 : ylk m_X11_examinerOf.2.2.2.2.1 32 = some (.iinc 4 1) := by decide +kernel
theorem cd_X11_examinerOf_35 : ylk m_X11_examinerOf.2.2.2.2.1 35 = some (.goto (-27)) := by decide +kernel
theorem cd_X11_examinerOf_38 : ylk m_X11_examinerOf.2.2.2.2.1 38 = some (.iload_n 3) := by decide +kernel
theorem cd_X11_examinerOf_39 : ylk m_X11_examinerOf.2.2.2.2.1 39 = some (.ireturn) := by decide +kernel
noncomputable abbrev yb_X11_examinerOf (C : yC) : ySt → Option (Option Value × yM) := yrn m_X11_examinerOf C
theorem en_X11_examinerOf (n : Nat) (A : yM) (v0 : Nat) (v1 : Int32) : ycall (n + 1) 109 [.ref v0, .int v1] A = yb_X11_examinerOf (ycall n) (8, [some (.ref v0), some (.int v1), some (.int (0 : Int32)), some (.int (-4 : Int32)), some (.int (0 : Int32))], [], A) := (ybig_blk 7 _).trans (z_iconst cd_X11_examinerOf_0 ki_0 (p := 1) rfl (zgo rfl (z_istore_n cd_X11_examinerOf_1 (j := 2) rfl rfl (p := 2) rfl (zgo rfl (z_bipush cd_X11_examinerOf_2 kb_m4 (p := 4) rfl (zgo rfl (z_istore_n cd_X11_examinerOf_4 (j := 3) rfl rfl (p := 5) rfl (zgo rfl (z_iconst cd_X11_examinerOf_5 ki_0 (p := 6) rfl (zgo rfl (z_istore cd_X11_examinerOf_6 rfl (p := 8) rfl (zcut (p := 8) rfl rfl))))))))))))
theorem bk_X11_examinerOf_8 (C : yC) (A : yM) (v0 : Nat) (v1 : Int32) (v2 : Int32) (v3 : Int32) (v4 : Int32) : yb_X11_examinerOf C (8, [some (.ref v0), some (.int v1), some (.int v2), some (.int v3), some (.int v4)], [], A) = if v1 < v4 then (some (some (.int v3), A)) else ((yi (yvt [(10, 110)] C [.ref v0, .int v4, .int v2] A)).bind (fun z1 => if z1.1 < 0 then (yb_X11_examinerOf C (8, [some (.ref v0), some (.int v1), some (.int v2), some (.int z1.1), some (.int (v4 + (1 : Int32)))], [], z1.2)) else (yb_X11_examinerOf C (8, [some (.ref v0), some (.int v1), some (.int (v2 ||| ((1 : Int32) <<< (z1.1 &&& 31)))), some (.int z1.1), some (.int (v4 + (1 : Int32)))], [], z1.2)))) := (ybig_blk 19 _).trans (z_iload cd_X11_examinerOf_8 rfl (p := 10) rfl (zgo rfl (z_iload_n cd_X11_examinerOf_10 (j := 1) rfl rfl (p := 11) rfl (zgo rfl (z_ic_gt cd_X11_examinerOf_11 (p := 38) rfl (p2 := 14) rfl (zgo rfl (z_iload_n cd_X11_examinerOf_38 (j := 3) rfl rfl (p := 39) rfl (zgo rfl (z_iret cd_X11_examinerOf_39 rfl)))) (zgo rfl (z_aload_n cd_X11_examinerOf_14 (j := 0) rfl rfl (p := 15) rfl (zgo rfl (z_iload cd_X11_examinerOf_15 rfl (p := 17) rfl (zgo rfl (z_iload_n cd_X11_examinerOf_17 (j := 2) rfl rfl (p := 18) rfl (zgo rfl (z_cv1 cd_X11_examinerOf_18 (zv (key := 762) (by decide)) cl_X11_c762 rfl rfl rfl rfl (p := 21) rfl (fun _ => (zgo rfl (z_istore_n cd_X11_examinerOf_21 (j := 3) rfl rfl (p := 22) rfl (zgo rfl (z_iload_n cd_X11_examinerOf_22 (j := 3) rfl rfl (p := 23) rfl (zgo rfl (z_if_lt cd_X11_examinerOf_23 (p := 32) rfl (p2 := 26) rfl (zgo rfl (z_iinc cd_X11_examinerOf_32 ki_1 rfl rfl (p := 35) rfl (zgo rfl (z_goto cd_X11_examinerOf_35 (p := 8) rfl (zcut (p := 8) rfl rfl))))) (zgo rfl (z_iload_n cd_X11_examinerOf_26 (j := 2) rfl rfl (p := 27) rfl (zgo rfl (z_iconst cd_X11_examinerOf_27 ki_1 (p := 28) rfl (zgo rfl (z_iload_n cd_X11_examinerOf_28 (j := 3) rfl rfl (p := 29) rfl (zgo rfl (z_ishl cd_X11_examinerOf_29 (p := 30) rfl (zgo rfl (z_ior cd_X11_examinerOf_30 (p := 31) rfl (zgo rfl (z_istore_n cd_X11_examinerOf_31 (j := 2) rfl rfl (p := 32) rfl (zgo rfl (z_iinc cd_X11_examinerOf_32 ki_1 rfl rfl (p := 35) rfl (zgo rfl (z_goto cd_X11_examinerOf_35 (p := 8) rfl (zcut (p := 8) rfl rfl)))))))))))))))))))))))))))))))))))))
