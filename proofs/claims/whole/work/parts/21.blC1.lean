theorem cd_X11_firstExaminer_0 : ylk m_X11_firstExaminer.2.2.2.2.1 0 = some (.aload_n 0) := by decide +kernel
theorem cd_X11_firstExaminer_1 : ylk m_X11_firstExaminer.2.2.2.2.1 1 = some (.getfield 40) := by decide +kernel
theorem cd_X11_firstExaminer_4 : ylk m_X11_firstExaminer.2.2.2.2.1 4 = some (.iload_n 1) := by decide +kernel
theorem cd_X11_firstExaminer_5 : ylk m_X11_firstExaminer.2.2.2.2.1 5 = some (.bipush 64) := by decide +kernel
theorem cd_X11_firstExaminer_7 : ylk m_X11_firstExaminer.2.2.2.2.1 7 = some (.imul) := by decide +kernel
theorem cd_X11_firstExaminer_8 : ylk m_X11_firstExaminer.2.2.2.2.1 8 = some (.iload_n 2) := by decide +kernel
theorem cd_X11_firstExaminer_9 : ylk m_X11_firstExaminer.2.2.2.2.1 9 = some (.iadd) := by decide +kernel
theorem cd_X11_firstExaminer_10 : ylk m_X11_firstExaminer.2.2.2.2.1 10 = some (.iaload) := by decide +kernel
theorem cd_X11_firstExaminer_11 : ylk m_X11_firstExaminer.2.2.2.2.1 11 = some (.istore_n 3) := by decide +kernel
theorem cd_X11_firstExaminer_12 : ylk m_X11_firstExaminer.2.2.2.2.1 12 = some (.iconst 0) := by decide +kernel
theorem cd_X11_firstExaminer_13 : ylk m_X11_firstExaminer.2.2.2.2.1 13 = some (.istore 4) := by decide +kernel
theorem cd_X11_firstExaminer_15 : ylk m_X11_firstExaminer.2.2.2.2.1 15 = some (.iload 4) := by decide +kernel
theorem cd_X11_firstExaminer_17 : ylk m_X11_firstExaminer.2.2.2.2.1 17 = some (.aload_n 0) := by decide +kernel
theorem cd_X11_firstExaminer_18 : ylk m_X11_firstExaminer.2.2.2.2.1 18 = some (.getfield 12) := by decide +kernel
theorem cd_X11_firstExaminer_21 : ylk m_X11_firstExaminer.2.2.2.2.1 21 = some (.getfield 244) := by decide +kernel
theorem cd_X11_firstExaminer_24 : ylk m_X11_firstExaminer.2.2.2.2.1 24 = some (.if_icmp .ge 47) := by decide +kernel
theorem cd_X11_firstExaminer_27 : ylk m_X11_firstExaminer.2.2.2.2.1 27 = some (.aload_n 0) := by decide +kernel
theorem cd_X11_firstExaminer_28 : ylk m_X11_firstExaminer.2.2.2.2.1 28 = some (.iload 4) := by decide +kernel
theorem cd_X11_firstExaminer_30 : ylk m_X11_firstExaminer.2.2.2.2.1 30 = some (.iload_n 1) := by decide +kernel
theorem cd_X11_firstExaminer_31 : ylk m_X11_firstExaminer.2.2.2.2.1 31 = some (.iload_n 2) := by decide +kernel
theorem cd_X11_firstExaminer_32 : ylk m_X11_firstExaminer.2.2.2.2.1 32 = some (.invokevirtual 250) := by decide +kernel
theorem cd_X11_firstExaminer_35 : ylk m_X11_firstExaminer.2.2.2.2.1 35 = some (.ifCond .eq 30) := by decide +kernel
theorem cd_X11_firstExaminer_38 : ylk m_X11_firstExaminer.2.2.2.2.1 38 = some (.iconst 1) := by decide +kernel
theorem cd_X11_firstExaminer_39 : ylk m_X11_firstExaminer.2.2.2.2.1 39 = some (.aload_n 0) := by decide +kernel
theorem cd_X11_firstExaminer_40 : ylk m_X11_firstExaminer.2.2.2.2.1 40 = some (.getfield 40) := by decide +kernel
theorem cd_X11_firstExaminer_43 : ylk m_X11_firstExaminer.2.2.2.2.1 43 = some (.iload_n 1) := by decide +kernel
theorem cd_X11_firstExaminer_44 : ylk m_X11_firstExaminer.2.2.2.2.1 44 = some (.iconst 1) := by decide +kernel
theorem cd_X11_firstExaminer_45 : ylk m_X11_firstExaminer.2.2.2.2.1 45 = some (.iadd) := by decide +kernel
theorem cd_X11_firstExaminer_46 : ylk m_X11_firstExaminer.2.2.2.2.1 46 = some (.bipush 64) := by decide +kernel
theorem cd_X11_firstExaminer_48 : ylk m_X11_firstExaminer.2.2.2.2.1 48 = some (.imul) := by decide +kernel
theorem cd_X11_firstExaminer_49 : ylk m_X11_firstExaminer.2.2.2.2.1 49 = some (.iload_n 2) := by decide +kernel
theorem cd_X11_firstExaminer_50 : ylk m_X11_firstExaminer.2.2.2.2.1 50 = some (.iconst 1) := by decide +kernel
theorem cd_X11_firstExaminer_51 : ylk m_X11_firstExaminer.2.2.2.2.1 51 = some (.iload 4) := by decide +kernel
theorem cd_X11_firstExaminer_53 : ylk m_X11_firstExaminer.2.2.2.2.1 53 = some (.ishl) := by decide +kernel
theorem cd_X11_firstExaminer_54 : ylk m_X11_firstExaminer.2.2.2.2.1 54 = some (.ior) := by decide +kernel
theorem cd_X11_firstExaminer_55 : ylk m_X11_firstExaminer.2.2.2.2.1 55 = some (.iadd) := by decide +kernel
theorem cd_X11_firstExaminer_56 : ylk m_X11_firstExaminer.2.2.2.2.1 56 = some (.iaload) := by decide +kernel
theorem cd_X11_firstExaminer_57 : ylk m_X11_firstExaminer.2.2.2.2.1 57 = some (.iadd) := by decide +kernel
theorem cd_X11_firstExaminer_58 : ylk m_X11_firstExaminer.2.2.2.2.1 58 = some (.iload_n 3) := by decide +kernel
theorem cd_X11_firstExaminer_59 : ylk m_X11_firstExaminer.2.2.2.2.1 59 = some (.if_icmp .ne 6) := by decide +kernel
theorem cd_X11_firstExaminer_62 : ylk m_X11_firstExaminer.2.2.2.2.1 62 = some (.iload 4) := by decide +kernel
theorem cd_X11_firstExaminer_64 : ylk m_X11_firstExaminer.2.2.2.2.1 64 = some (.ireturn) := by decide +kernel
theorem cd_X11_firstExaminer_65 : ylk m_X11_firstExaminer.2.2.2.2.1 65 = some (.iinc 4 1) := by decide +kernel
theorem cd_X11_firstExaminer_68 : ylk m_X11_firstExaminer.2.2.2.2.1 68 = some (.goto (-53)) := by decide +kernel
theorem cd_X11_firstExaminer_71 : ylk m_X11_firstExaminer.2.2.2.2.1 71 = some (.bipush (-4)) := by decide +kernel
theorem cd_X11_firstExaminer_73 : ylk m_X11_firstExaminer.2.2.2.2.1 73 = some (.ireturn) := by decide +kernel
noncomputable abbrev yb_X11_firstExaminer (C : yC) : ySt → Option (Option Value × yM) := yrn m_X11_firstExaminer C
theorem en_X11_firstExaminer (n : Nat) (A : yM) (v0 : Nat) (v1 : Int32) (v2 : Int32) : ycall (n + 1) 110 [.ref v0, .int v1, .int v2] A = ygR A v0 10 7 (fun a1 => yrd A a1 ((v1 * (64 : Int32)) + v2) (fun x2 => yb_X11_firstExaminer (ycall n) (15, [some (.ref v0), some (.int v1), some (.int v2), some (.int x2), some (.int (0 : Int32))], [], A))) := (ybig_blk 12 _).trans (z_aload_n cd_X11_firstExaminer_0 (j := 0) rfl rfl (p := 1) rfl (zgo rfl (z_getR cd_X11_firstExaminer_1 fd_X11_40 (p := 4) rfl (fun _ => (zgo rfl (z_iload_n cd_X11_firstExaminer_4 (j := 1) rfl rfl (p := 5) rfl (zgo rfl (z_bipush cd_X11_firstExaminer_5 kb_64 (p := 7) rfl (zgo rfl (z_imul cd_X11_firstExaminer_7 (p := 8) rfl (zgo rfl (z_iload_n cd_X11_firstExaminer_8 (j := 2) rfl rfl (p := 9) rfl (zgo rfl (z_iadd cd_X11_firstExaminer_9 (p := 10) rfl (zgo rfl (z_iaload cd_X11_firstExaminer_10 (p := 11) rfl (fun _ => (zgo rfl (z_istore_n cd_X11_firstExaminer_11 (j := 3) rfl rfl (p := 12) rfl (zgo rfl (z_iconst cd_X11_firstExaminer_12 ki_0 (p := 13) rfl (zgo rfl (z_istore cd_X11_firstExaminer_13 rfl (p := 15) rfl (zcut (p := 15) rfl rfl))))))))))))))))))))))))
theorem bk_X11_firstExaminer_15 (C : yC) (A : yM) (v0 : Nat) (v1 : Int32) (v2 : Int32) (v3 : Int32) (v4 : Int32) : yb_X11_firstExaminer C (15, [some (.ref v0), some (.int v1), some (.int v2), some (.int v3), some (.int v4)], [], A) = ygR A v0 10 0 (fun a1 => ygI A a1 0 1 (fun x2 => if x2 ≤ v4 then (some (some (.int (-4 : Int32)), A)) else ((yi (yvt [(10, 108)] C [.ref v0, .int v4, .int v1, .int v2] A)).bind (fun z3 => if z3.1 = 0 then (yb_X11_firstExaminer C (15, [some (.ref v0), some (.int v1), some (.int v2), some (.int v3), some (.int (v4 + (1 : Int32)))], [], z3.2)) else (ygR z3.2 v0 10 7 (fun a4 => yrd z3.2 a4 (((v1 + (1 : Int32)) * (64 : Int32)) + (v2 ||| ((1 : Int32) <<< (v4 &&& 31)))) (fun x5 => if ((1 : Int32) + x5) = v3 then (some (some (.int v4), z3.2)) else (yb_X11_firstExaminer C (15, [some (.ref v0), some (.int v1), some (.int v2), some (.int v3), some (.int (v4 + (1 : Int32)))], [], z3.2))))))))) := (ybig_blk 32 _).trans (z_iload cd_X11_firstExaminer_15 rfl (p := 17) rfl (zgo rfl (z_aload_n cd_X11_firstExaminer_17 (j := 0) rfl rfl (p := 18) rfl (zgo rfl (z_getR cd_X11_firstExaminer_18 fd_X11_12 (p := 21) rfl (fun _ => (zgo rfl (z_getI cd_X11_firstExaminer_21 fd_X11_244 (p := 24) rfl (fun _ => (zgo rfl (z_ic_ge cd_X11_firstExaminer_24 (p := 71) rfl (p2 := 27) rfl (zgo rfl (z_bipush cd_X11_firstExaminer_71 kb_m4 (p := 73) rfl (zgo rfl (z_iret cd_X11_firstExaminer_73 rfl)))) (zgo rfl (z_aload_n cd_X11_firstExaminer_27 (j := 0) rfl rfl (p := 28) rfl (zgo rfl (z_iload cd_X11_firstExaminer_28 rfl (p := 30) rfl (zgo rfl (z_iload_n cd_X11_firstExaminer_30 (j := 1) rfl rfl (p := 31) rfl (zgo rfl (z_iload_n cd_X11_firstExaminer_31 (j := 2) rfl rfl (p := 32) rfl (zgo rfl (z_cv1 cd_X11_firstExaminer_32 (zv (key := 750) (by decide)) cl_X11_c750 rfl rfl rfl rfl (p := 35) rfl (fun _ => (zgo rfl (z_if_eq cd_X11_firstExaminer_35 (p := 65) rfl (p2 := 38) rfl (zgo rfl (z_iinc cd_X11_firstExaminer_65 ki_1 rfl rfl (p := 68) rfl (zgo rfl (z_goto cd_X11_firstExaminer_68 (p := 15) rfl (zcut (p := 15) rfl rfl))))) (zgo rfl (z_iconst cd_X11_firstExaminer_38 ki_1 (p := 39) rfl (zgo rfl (z_aload_n cd_X11_firstExaminer_39 (j := 0) rfl rfl (p := 40) rfl (zgo rfl (z_getR cd_X11_firstExaminer_40 fd_X11_40 (p := 43) rfl (fun _ => (zgo rfl (z_iload_n cd_X11_firstExaminer_43 (j := 1) rfl rfl (p := 44) rfl (zgo rfl (z_iconst cd_X11_firstExaminer_44 ki_1 (p := 45) rfl (zgo rfl (z_iadd cd_X11_firstExaminer_45 (p := 46) rfl (zgo rfl (z_bipush cd_X11_firstExaminer_46 kb_64 (p := 48) rfl (zgo rfl (z_imul cd_X11_firstExaminer_48 (p := 49) rfl (zgo rfl (z_iload_n cd_X11_firstExaminer_49 (j := 2) rfl rfl (p := 50) rfl (zgo rfl (z_iconst cd_X11_firstExaminer_50 ki_1 (p := 51) rfl (zgo rfl (z_iload cd_X11_firstExaminer_51 rfl (p := 53) rfl (zgo rfl (z_ishl cd_X11_firstExaminer_53 (p := 54) rfl (zgo rfl (z_ior cd_X11_firstExaminer_54 (p := 55) rfl (zgo rfl (z_iadd cd_X11_firstExaminer_55 (p := 56) rfl (zgo rfl (z_iaload cd_X11_firstExaminer_56 (p := 57) rfl (fun _ => (zgo rfl (z_iadd cd_X11_firstExaminer_57 (p := 58) rfl (zgo rfl (z_iload_n cd_X11_firstExaminer_58 (j := 3) rfl rfl (p := 59) rfl (zgo rfl (z_ic_ne cd_X11_firstExaminer_59 (p := 65) rfl (p2 := 62) rfl (zgo rfl (z_iload cd_X11_firstExaminer_62 rfl (p := 64) rfl (zgo rfl (z_iret cd_X11_firstExaminer_64 rfl)))) (zgo rfl (z_iinc cd_X11_firstExaminer_65 ki_1 rfl rfl (p := 68) rfl (zgo rfl (z_goto cd_X11_firstExaminer_68 (p := 15) rfl (zcut (p := 15) rfl rfl)))))))))))))))))))))))))))))))))))))))))))))))))))))))))))))))))))
theorem cd_X11_order_0 : ylk m_X11_order.2.2.2.2.1 0 = some (.aload_n 0) := by decide +kernel
theorem cd_X11_order_1 : ylk m_X11_order.2.2.2.2.1 1 = some (.iload_n 1) := by decide +kernel
theorem cd_X11_order_2 : ylk m_X11_order.2.2.2.2.1 2 = some (.invokevirtual 43) := by decide +kernel
theorem cd_X11_order_5 : ylk m_X11_order.2.2.2.2.1 5 = some (.istore_n 2) := by decide +kernel
theorem cd_X11_order_6 : ylk m_X11_order.2.2.2.2.1 6 = some (.iload_n 2) := by decide +kernel
theorem cd_X11_order_7 : ylk m_X11_order.2.2.2.2.1 7 = some (.ifCond .eq 5) := by decide +kernel
theorem cd_X11_order_10 : ylk m_X11_order.2.2.2.2.1 10 = some (.iload_n 2) := by decide +kernel
theorem cd_X11_order_11 : ylk m_X11_order.2.2.2.2.1 11 = some (.ireturn) := by decide +kernel
theorem cd_X11_order_12 : ylk m_X11_order.2.2.2.2.1 12 = some (.aload_n 0) := by decide +kernel
theorem cd_X11_order_13 : ylk m_X11_order.2.2.2.2.1 13 = some (.getfield 28) := by decide +kernel
theorem cd_X11_order_16 : ylk m_X11_order.2.2.2.2.1 16 = some (.iload_n 1) := by decide +kernel
theorem cd_X11_order_17 : ylk m_X11_order.2.2.2.2.1 17 = some (.aaload) := by decide +kernel
theorem cd_X11_order_18 : ylk m_X11_order.2.2.2.2.1 18 = some (.astore_n 3) := by decide +kernel
theorem cd_X11_order_19 : ylk m_X11_order.2.2.2.2.1 19 = some (.iconst 0) := by decide +kernel
theorem cd_X11_order_20 : ylk m_X11_order.2.2.2.2.1 20 = some (.istore 4) := by decide +kernel
theorem cd_X11_order_22 : ylk m_X11_order.2.2.2.2.1 22 = some (.iload 4) := by decide +kernel
theorem cd_X11_order_24 : ylk m_X11_order.2.2.2.2.1 24 = some (.aload_n 3) := by decide +kernel
theorem cd_X11_order_25 : ylk m_X11_order.2.2.2.2.1 25 = some (.getfield 257) := by decide +kernel
theorem cd_X11_order_28 : ylk m_X11_order.2.2.2.2.1 28 = some (.if_icmp .ge 86) := by decide +kernel
theorem cd_X11_order_31 : ylk m_X11_order.2.2.2.2.1 31 = some (.aload_n 3) := by decide +kernel
theorem cd_X11_order_32 : ylk m_X11_order.2.2.2.2.1 32 = some (.getfield 260) := by decide +kernel
theorem cd_X11_order_35 : ylk m_X11_order.2.2.2.2.1 35 = some (.iload 4) := by decide +kernel
theorem cd_X11_order_37 : ylk m_X11_order.2.2.2.2.1 37 = some (.iaload) := by decide +kernel
theorem cd_X11_order_38 : ylk m_X11_order.2.2.2.2.1 38 = some (.istore 5) := by decide +kernel
theorem cd_X11_order_40 : ylk m_X11_order.2.2.2.2.1 40 = some (.aload_n 0) := by decide +kernel
theorem cd_X11_order_41 : ylk m_X11_order.2.2.2.2.1 41 = some (.getfield 12) := by decide +kernel
theorem cd_X11_order_44 : ylk m_X11_order.2.2.2.2.1 44 = some (.iload 5) := by decide +kernel
theorem cd_X11_order_46 : ylk m_X11_order.2.2.2.2.1 46 = some (.invokevirtual 90) := by decide +kernel
theorem cd_X11_order_49 : ylk m_X11_order.2.2.2.2.1 49 = some (.ifCond .eq 14) := by decide +kernel
theorem cd_X11_order_52 : ylk m_X11_order.2.2.2.2.1 52 = some (.aload_n 3) := by decide +kernel
theorem cd_X11_order_53 : ylk m_X11_order.2.2.2.2.1 53 = some (.iload 5) := by decide +kernel
theorem cd_X11_order_55 : ylk m_X11_order.2.2.2.2.1 55 = some (.invokevirtual 263) := by decide +kernel
theorem cd_X11_order_58 : ylk m_X11_order.2.2.2.2.1 58 = some (.iload 4) := by decide +kernel
theorem cd_X11_order_60 : ylk m_X11_order.2.2.2.2.1 60 = some (.if_icmp .ge 6) := by decide +kernel
theorem cd_X11_order_63 : ylk m_X11_order.2.2.2.2.1 63 = some (.iload 4) := by decide +kernel
theorem cd_X11_order_65 : ylk m_X11_order.2.2.2.2.1 65 = some (.ireturn) := by decide +kernel
theorem cd_X11_order_66 : ylk m_X11_order.2.2.2.2.1 66 = some (.aload_n 0) := by decide +kernel
theorem cd_X11_order_67 : ylk m_X11_order.2.2.2.2.1 67 = some (.getfield 12) := by decide +kernel
theorem cd_X11_order_70 : ylk m_X11_order.2.2.2.2.1 70 = some (.aload_n 0) := by decide +kernel
theorem cd_X11_order_71 : ylk m_X11_order.2.2.2.2.1 71 = some (.getfield 12) := by decide +kernel
theorem cd_X11_order_74 : ylk m_X11_order.2.2.2.2.1 74 = some (.getfield 102) := by decide +kernel
theorem cd_X11_order_77 : ylk m_X11_order.2.2.2.2.1 77 = some (.iload 5) := by decide +kernel
theorem cd_X11_order_79 : ylk m_X11_order.2.2.2.2.1 79 = some (.iaload) := by decide +kernel
theorem cd_X11_order_80 : ylk m_X11_order.2.2.2.2.1 80 = some (.invokevirtual 90) := by decide +kernel
theorem cd_X11_order_83 : ylk m_X11_order.2.2.2.2.1 83 = some (.ifCond .eq 25) := by decide +kernel
theorem cd_X11_order_86 : ylk m_X11_order.2.2.2.2.1 86 = some (.aload_n 3) := by decide +kernel
theorem cd_X11_order_87 : ylk m_X11_order.2.2.2.2.1 87 = some (.aload_n 0) := by decide +kernel
theorem cd_X11_order_88 : ylk m_X11_order.2.2.2.2.1 88 = some (.getfield 12) := by decide +kernel
theorem cd_X11_order_91 : ylk m_X11_order.2.2.2.2.1 91 = some (.getfield 102) := by decide +kernel
theorem cd_X11_order_94 : ylk m_X11_order.2.2.2.2.1 94 = some (.iload 5) := by decide +kernel
theorem cd_X11_order_96 : ylk m_X11_order.2.2.2.2.1 96 = some (.iaload) := by decide +kernel
theorem cd_X11_order_97 : ylk m_X11_order.2.2.2.2.1 97 = some (.invokevirtual 263) := by decide +kernel
theorem cd_X11_order_100 : ylk m_X11_order.2.2.2.2.1 100 = some (.iload 4) := by decide +kernel
theorem cd_X11_order_102 : ylk m_X11_order.2.2.2.2.1 102 = some (.if_icmp .le 6) := by decide +kernel
theorem cd_X11_order_105 : ylk m_X11_order.2.2.2.2.1 105 = some (.iload 4) := by decide +kernel
theorem cd_X11_order_107 : ylk m_X11_order.2.2.2.2.1 107 = some (.ireturn) := by decide +kernel
theorem cd_X11_order_108 : ylk m_X11_order.2.2.2.2.1 108 = some (.iinc 4 1) := by decide +kernel
theorem cd_X11_order_111 : ylk m_X11_order.2.2.2.2.1 111 = some (.goto (-89)) := by decide +kernel
theorem cd_X11_order_114 : ylk m_X11_order.2.2.2.2.1 114 = some (.bipush (-4)) := by decide +kernel
theorem cd_X11_order_116 : ylk m_X11_order.2.2.2.2.1 116 = some (.ireturn) := by decide +kernel
noncomputable abbrev yb_X11_order (C : yC) : ySt → Option (Option Value × yM) := yrn m_X11_order C
theorem en_X11_order (n : Nat) (A : yM) (v0 : Nat) (v1 : Int32) : ycall (n + 1) 111 [.ref v0, .int v1] A = (yi (yvt [(10, 135)] (ycall n) [.ref v0, .int v1] A)).bind (fun z1 => if z1.1 = 0 then (ygR z1.2 v0 10 4 (fun a2 => yrR z1.2 a2 v1 (fun a3 => yb_X11_order (ycall n) (22, [some (.ref v0), none, none, some (.ref a3), some (.int (0 : Int32)), none], [], z1.2)))) else (some (some (.int z1.1), z1.2))) := (ybig_blk 14 _).trans (z_aload_n cd_X11_order_0 (j := 0) rfl rfl (p := 1) rfl (zgo rfl (z_iload_n cd_X11_order_1 (j := 1) rfl rfl (p := 2) rfl (zgo rfl (z_cv1 cd_X11_order_2 (zv (key := 129) (by decide)) cl_X11_c129 rfl rfl rfl rfl (p := 5) rfl (fun _ => (zgo rfl (z_istore_n cd_X11_order_5 (j := 2) rfl rfl (p := 6) rfl (zgo rfl (z_iload_n cd_X11_order_6 (j := 2) rfl rfl (p := 7) rfl (zgo rfl (z_if_eq cd_X11_order_7 (p := 12) rfl (p2 := 10) rfl (zgo rfl (z_aload_n cd_X11_order_12 (j := 0) rfl rfl (p := 13) rfl (zgo rfl (z_getR cd_X11_order_13 fd_X11_28 (p := 16) rfl (fun _ => (zgo rfl (z_iload_n cd_X11_order_16 (j := 1) rfl rfl (p := 17) rfl (zgo rfl (z_aaload cd_X11_order_17 (p := 18) rfl (fun _ => (zgo rfl (z_astore_n cd_X11_order_18 (j := 3) rfl rfl (p := 19) rfl (zgo rfl (z_iconst cd_X11_order_19 ki_0 (p := 20) rfl (zgo rfl (z_istore cd_X11_order_20 rfl (p := 22) rfl (zcut (p := 22) rfl rfl))))))))))))))))) (zgo rfl (z_iload_n cd_X11_order_10 (j := 2) rfl rfl (p := 11) rfl (zgo rfl (z_iret cd_X11_order_11 rfl))))))))))))))))
theorem bk_X11_order_22 (C : yC) (A : yM) (v0 : Nat) (v3 : Nat) (v4 : Int32) : yb_X11_order C (22, [some (.ref v0), none, none, some (.ref v3), some (.int v4), none], [], A) = ygI A v3 7 4 (fun x1 => if x1 ≤ v4 then (some (some (.int (-4 : Int32)), A)) else (ygR A v3 7 5 (fun a2 => yrd A a2 v4 (fun x3 => ygR A v0 10 0 (fun a4 => (yi (yvt [(0, 2)] C [.ref a4, .int x3] A)).bind (fun z5 => if z5.1 = 0 then (some (some (.int v4), z5.2)) else ((yi (yvt [(7, 59)] C [.ref v3, .int x3] z5.2)).bind (fun z6 => if v4 ≤ z6.1 then (ygR z6.2 v0 10 0 (fun a7 => ygR z6.2 v0 10 0 (fun a8 => ygR z6.2 a8 0 9 (fun a9 => yrd z6.2 a9 x3 (fun x10 => (yi (yvt [(0, 2)] C [.ref a7, .int x10] z6.2)).bind (fun z11 => if z11.1 = 0 then (yb_X11_order C (22, [some (.ref v0), none, none, some (.ref v3), some (.int (v4 + (1 : Int32))), none], [], z11.2)) else (ygR z11.2 v0 10 0 (fun a12 => ygR z11.2 a12 0 9 (fun a13 => yrd z11.2 a13 x3 (fun x14 => (yi (yvt [(7, 59)] C [.ref v3, .int x14] z11.2)).bind (fun z15 => if z15.1 ≤ v4 then (yb_X11_order C (22, [some (.ref v0), none, none, some (.ref v3), some (.int (v4 + (1 : Int32))), none], [], z15.2)) else (some (some (.int v4), z15.2))))))))))))) else (some (some (.int v4), z6.2)))))))))) := (ybig_blk 40 _).trans (z_iload cd_X11_order_22 rfl (p := 24) rfl (zgo rfl (z_aload_n cd_X11_order_24 (j := 3) rfl rfl (p := 25) rfl (zgo rfl (z_getI cd_X11_order_25 fd_X11_257 (p := 28) rfl (fun _ => (zgo rfl (z_ic_ge cd_X11_order_28 (p := 114) rfl (p2 := 31) rfl (zgo rfl (z_bipush cd_X11_order_114 kb_m4 (p := 116) rfl (zgo rfl (z_iret cd_X11_order_116 rfl)))) (zgo rfl (z_aload_n cd_X11_order_31 (j := 3) rfl rfl (p := 32) rfl (zgo rfl (z_getR cd_X11_order_32 fd_X11_260 (p := 35) rfl (fun _ => (zgo rfl (z_iload cd_X11_order_35 rfl (p := 37) rfl (zgo rfl (z_iaload cd_X11_order_37 (p := 38) rfl (fun _ => (zgo rfl (z_istore cd_X11_order_38 rfl (p := 40) rfl (zgo rfl (z_aload_n cd_X11_order_40 (j := 0) rfl rfl (p := 41) rfl (zgo rfl (z_getR cd_X11_order_41 fd_X11_12 (p := 44) rfl (fun _ => (zgo rfl (z_iload cd_X11_order_44 rfl (p := 46) rfl (zgo rfl (z_cv1 cd_X11_order_46 (zv (key := 270) (by decide)) cl_X11_c270 rfl rfl rfl rfl (p := 49) rfl (fun _ => (zgo rfl (z_if_eq cd_X11_order_49 (p := 63) rfl (p2 := 52) rfl (zgo rfl (z_iload cd_X11_order_63 rfl (p := 65) rfl (zgo rfl (z_iret cd_X11_order_65 rfl)))) (zgo rfl (z_aload_n cd_X11_order_52 (j := 3) rfl rfl (p := 53) rfl (zgo rfl (z_iload cd_X11_order_53 rfl (p := 55) rfl (zgo rfl (z_cv1 cd_X11_order_55 (zv (key := 789) (by decide)) cl_X11_c789 rfl rfl rfl rfl (p := 58) rfl (fun _ => (zgo rfl (z_iload cd_X11_order_58 rfl (p := 60) rfl (zgo rfl (z_ic_ge cd_X11_order_60 (p := 66) rfl (p2 := 63) rfl (zgo rfl (z_aload_n cd_X11_order_66 (j := 0) rfl rfl (p := 67) rfl (zgo rfl (z_getR cd_X11_order_67 fd_X11_12 (p := 70) rfl (fun _ => (zgo rfl (z_aload_n cd_X11_order_70 (j := 0) rfl rfl (p := 71) rfl (zgo rfl (z_getR cd_X11_order_71 fd_X11_12 (p := 74) rfl (fun _ => (zgo rfl (z_getR cd_X11_order_74 fd_X11_102 (p := 77) rfl (fun _ => (zgo rfl (z_iload cd_X11_order_77 rfl (p := 79) rfl (zgo rfl (z_iaload cd_X11_order_79 (p := 80) rfl (fun _ => (zgo rfl (z_cv1 cd_X11_order_80 (zv (key := 270) (by decide)) cl_X11_c270 rfl rfl rfl rfl (p := 83) rfl (fun _ => (zgo rfl (z_if_eq cd_X11_order_83 (p := 108) rfl (p2 := 86) rfl (zgo rfl (z_iinc cd_X11_order_108 ki_1 rfl rfl (p := 111) rfl (zgo rfl (z_goto cd_X11_order_111 (p := 22) rfl (zcut (p := 22) rfl rfl))))) (zgo rfl (z_aload_n cd_X11_order_86 (j := 3) rfl rfl (p := 87) rfl (zgo rfl (z_aload_n cd_X11_order_87 (j := 0) rfl rfl (p := 88) rfl (zgo rfl (z_getR cd_X11_order_88 fd_X11_12 (p := 91) rfl (fun _ => (zgo rfl (z_getR cd_X11_order_91 fd_X11_102 (p := 94) rfl (fun _ => (zgo rfl (z_iload cd_X11_order_94 rfl (p := 96) rfl (zgo rfl (z_iaload cd_X11_order_96 (p := 97) rfl (fun _ => (zgo rfl (z_cv1 cd_X11_order_97 (zv (key := 789) (by decide)) cl_X11_c789 rfl rfl rfl rfl (p := 100) rfl (fun _ => (zgo rfl (z_iload cd_X11_order_100 rfl (p := 102) rfl (zgo rfl (z_ic_le cd_X11_order_102 (p := 108) rfl (p2 := 105) rfl (zgo rfl (z_iinc cd_X11_order_108 ki_1 rfl rfl (p := 111) rfl (zgo rfl (z_goto cd_X11_order_111 (p := 22) rfl (zcut (p := 22) rfl rfl))))) (zgo rfl (z_iload cd_X11_order_105 rfl (p := 107) rfl (zgo rfl (z_iret cd_X11_order_107 rfl))))))))))))))))))))))))))))))))))))))))))))))))) (zgo rfl (z_iload cd_X11_order_63 rfl (p := 65) rfl (zgo rfl (z_iret cd_X11_order_65 rfl)))))))))))))))))))))))))))))))))))))))))))))))
theorem cd_X11_whatIs_0 : ylk m_X11_whatIs.2.2.2.2.1 0 = some (.iload_n 1) := by decide +kernel
theorem cd_X11_whatIs_1 : ylk m_X11_whatIs.2.2.2.2.1 1 = some (.invokestatic 266) := by decide +kernel
theorem cd_X11_whatIs_4 : ylk m_X11_whatIs.2.2.2.2.1 4 = some (.ifCond .eq 23) := by decide +kernel
theorem cd_X11_whatIs_7 : ylk m_X11_whatIs.2.2.2.2.1 7 = some (.aload_n 0) := by decide +kernel
theorem cd_X11_whatIs_8 : ylk m_X11_whatIs.2.2.2.2.1 8 = some (.getfield 12) := by decide +kernel
theorem cd_X11_whatIs_11 : ylk m_X11_whatIs.2.2.2.2.1 11 = some (.iload_n 2) := by decide +kernel
theorem cd_X11_whatIs_12 : ylk m_X11_whatIs.2.2.2.2.1 12 = some (.invokevirtual 90) := by decide +kernel
theorem cd_X11_whatIs_15 : ylk m_X11_whatIs.2.2.2.2.1 15 = some (.ifCond .eq 12) := by decide +kernel
theorem cd_X11_whatIs_18 : ylk m_X11_whatIs.2.2.2.2.1 18 = some (.iload_n 3) := by decide +kernel
theorem cd_X11_whatIs_19 : ylk m_X11_whatIs.2.2.2.2.1 19 = some (.ifCond .lt 8) := by decide +kernel
theorem cd_X11_whatIs_22 : ylk m_X11_whatIs.2.2.2.2.1 22 = some (.iload_n 3) := by decide +kernel
theorem cd_X11_whatIs_23 : ylk m_X11_whatIs.2.2.2.2.1 23 = some (.iconst 1) := by decide +kernel
theorem cd_X11_whatIs_24 : ylk m_X11_whatIs.2.2.2.2.1 24 = some (.if_icmp .le 5) := by decide +kernel
theorem cd_X11_whatIs_27 : ylk m_X11_whatIs.2.2.2.2.1 27 = some (.iconst (-1)) := by decide +kernel
theorem cd_X11_whatIs_28 : ylk m_X11_whatIs.2.2.2.2.1 28 = some (.ireturn) := by decide +kernel
theorem cd_X11_whatIs_29 : ylk m_X11_whatIs.2.2.2.2.1 29 = some (.aload_n 0) := by decide +kernel
theorem cd_X11_whatIs_30 : ylk m_X11_whatIs.2.2.2.2.1 30 = some (.iload_n 1) := by decide +kernel
theorem cd_X11_whatIs_31 : ylk m_X11_whatIs.2.2.2.2.1 31 = some (.invokevirtual 43) := by decide +kernel
theorem cd_X11_whatIs_34 : ylk m_X11_whatIs.2.2.2.2.1 34 = some (.istore 4) := by decide +kernel
theorem cd_X11_whatIs_36 : ylk m_X11_whatIs.2.2.2.2.1 36 = some (.iload 4) := by decide +kernel
theorem cd_X11_whatIs_38 : ylk m_X11_whatIs.2.2.2.2.1 38 = some (.ifCond .eq 6) := by decide +kernel
theorem cd_X11_whatIs_41 : ylk m_X11_whatIs.2.2.2.2.1 41 = some (.iload 4) := by decide +kernel
theorem cd_X11_whatIs_43 : ylk m_X11_whatIs.2.2.2.2.1 43 = some (.ireturn) := by decide +kernel
theorem cd_X11_whatIs_44 : ylk m_X11_whatIs.2.2.2.2.1 44 = some (.iload_n 3) := by decide +kernel
theorem cd_X11_whatIs_45 : ylk m_X11_whatIs.2.2.2.2.1 45 = some (.ifCond .ne 17) := by decide +kernel
theorem cd_X11_whatIs_48 : ylk m_X11_whatIs.2.2.2.2.1 48 = some (.aload_n 0) := by decide +kernel
theorem cd_X11_whatIs_49 : ylk m_X11_whatIs.2.2.2.2.1 49 = some (.aload_n 0) := by decide +kernel
theorem cd_X11_whatIs_50 : ylk m_X11_whatIs.2.2.2.2.1 50 = some (.getfield 28) := by decide +kernel
theorem cd_X11_whatIs_53 : ylk m_X11_whatIs.2.2.2.2.1 53 = some (.iload_n 1) := by decide +kernel
theorem cd_X11_whatIs_54 : ylk m_X11_whatIs.2.2.2.2.1 54 = some (.aaload) := by decide +kernel
theorem cd_X11_whatIs_55 : ylk m_X11_whatIs.2.2.2.2.1 55 = some (.iload_n 2) := by decide +kernel
theorem cd_X11_whatIs_56 : ylk m_X11_whatIs.2.2.2.2.1 56 = some (.invokevirtual 269) := by decide +kernel
theorem cd_X11_whatIs_59 : ylk m_X11_whatIs.2.2.2.2.1 59 = some (.goto 14) := by decide +kernel
theorem cd_X11_whatIs_62 : ylk m_X11_whatIs.2.2.2.2.1 62 = some (.aload_n 0) := by decide +kernel
theorem cd_X11_whatIs_63 : ylk m_X11_whatIs.2.2.2.2.1 63 = some (.aload_n 0) := by decide +kernel
theorem cd_X11_whatIs_64 : ylk m_X11_whatIs.2.2.2.2.1 64 = some (.getfield 28) := by decide +kernel
theorem cd_X11_whatIs_67 : ylk m_X11_whatIs.2.2.2.2.1 67 = some (.iload_n 1) := by decide +kernel
theorem cd_X11_whatIs_68 : ylk m_X11_whatIs.2.2.2.2.1 68 = some (.aaload) := by decide +kernel
theorem cd_X11_whatIs_69 : ylk m_X11_whatIs.2.2.2.2.1 69 = some (.iload_n 2) := by decide +kernel
theorem cd_X11_whatIs_70 : ylk m_X11_whatIs.2.2.2.2.1 70 = some (.invokevirtual 273) := by decide +kernel
theorem cd_X11_whatIs_73 : ylk m_X11_whatIs.2.2.2.2.1 73 = some (.ireturn) := by decide +kernel
noncomputable abbrev yb_X11_whatIs (C : yC) : ySt → Option (Option Value × yM) := yrn m_X11_whatIs C
theorem en_X11_whatIs (n : Nat) (A : yM) (v0 : Nat) (v1 : Int32) (v2 : Int32) (v3 : Int32) : ycall (n + 1) 112 [.ref v0, .int v1, .int v2, .int v3] A = (yi ((ycall n) 134 [.int v1] A)).bind (fun z1 => if z1.1 = 0 then (some (some (.int (-1 : Int32)), z1.2)) else (ygR z1.2 v0 10 0 (fun a2 => (yi (yvt [(0, 2)] (ycall n) [.ref a2, .int v2] z1.2)).bind (fun z3 => if z3.1 = 0 then (some (some (.int (-1 : Int32)), z3.2)) else (if v3 < 0 then (some (some (.int (-1 : Int32)), z3.2)) else (if v3 ≤ (1 : Int32) then ((yi (yvt [(10, 135)] (ycall n) [.ref v0, .int v1] z3.2)).bind (fun z4 => if z4.1 = 0 then (if v3 = 0 then (ygR z4.2 v0 10 4 (fun a8 => yrR z4.2 a8 v1 (fun a9 => (yi (yvt [(10, 113)] (ycall n) [.ref v0, .ref a9, .int v2] z4.2)).bind (fun z10 => some (some (.int z10.1), z10.2))))) else (ygR z4.2 v0 10 4 (fun a5 => yrR z4.2 a5 v1 (fun a6 => (yi (yvt [(10, 114)] (ycall n) [.ref v0, .ref a6, .int v2] z4.2)).bind (fun z7 => some (some (.int z7.1), z7.2)))))) else (some (some (.int z4.1), z4.2)))) else (some (some (.int (-1 : Int32)), z3.2)))))))) := (ybig_blk 31 _).trans (z_iload_n cd_X11_whatIs_0 (j := 1) rfl rfl (p := 1) rfl (zgo rfl (z_cs1 cd_X11_whatIs_1 (zs (key := 799) (by decide)) cl_X11_c799 rfl rfl rfl rfl (p := 4) rfl (fun _ => (zgo rfl (z_if_eq cd_X11_whatIs_4 (p := 27) rfl (p2 := 7) rfl (zgo rfl (z_iconst cd_X11_whatIs_27 ki_m1 (p := 28) rfl (zgo rfl (z_iret cd_X11_whatIs_28 rfl)))) (zgo rfl (z_aload_n cd_X11_whatIs_7 (j := 0) rfl rfl (p := 8) rfl (zgo rfl (z_getR cd_X11_whatIs_8 fd_X11_12 (p := 11) rfl (fun _ => (zgo rfl (z_iload_n cd_X11_whatIs_11 (j := 2) rfl rfl (p := 12) rfl (zgo rfl (z_cv1 cd_X11_whatIs_12 (zv (key := 270) (by decide)) cl_X11_c270 rfl rfl rfl rfl (p := 15) rfl (fun _ => (zgo rfl (z_if_eq cd_X11_whatIs_15 (p := 27) rfl (p2 := 18) rfl (zgo rfl (z_iconst cd_X11_whatIs_27 ki_m1 (p := 28) rfl (zgo rfl (z_iret cd_X11_whatIs_28 rfl)))) (zgo rfl (z_iload_n cd_X11_whatIs_18 (j := 3) rfl rfl (p := 19) rfl (zgo rfl (z_if_lt cd_X11_whatIs_19 (p := 27) rfl (p2 := 22) rfl (zgo rfl (z_iconst cd_X11_whatIs_27 ki_m1 (p := 28) rfl (zgo rfl (z_iret cd_X11_whatIs_28 rfl)))) (zgo rfl (z_iload_n cd_X11_whatIs_22 (j := 3) rfl rfl (p := 23) rfl (zgo rfl (z_iconst cd_X11_whatIs_23 ki_1 (p := 24) rfl (zgo rfl (z_ic_le cd_X11_whatIs_24 (p := 29) rfl (p2 := 27) rfl (zgo rfl (z_aload_n cd_X11_whatIs_29 (j := 0) rfl rfl (p := 30) rfl (zgo rfl (z_iload_n cd_X11_whatIs_30 (j := 1) rfl rfl (p := 31) rfl (zgo rfl (z_cv1 cd_X11_whatIs_31 (zv (key := 129) (by decide)) cl_X11_c129 rfl rfl rfl rfl (p := 34) rfl (fun _ => (zgo rfl (z_istore cd_X11_whatIs_34 rfl (p := 36) rfl (zgo rfl (z_iload cd_X11_whatIs_36 rfl (p := 38) rfl (zgo rfl (z_if_eq cd_X11_whatIs_38 (p := 44) rfl (p2 := 41) rfl (zgo rfl (z_iload_n cd_X11_whatIs_44 (j := 3) rfl rfl (p := 45) rfl (zgo rfl (z_if_ne cd_X11_whatIs_45 (p := 62) rfl (p2 := 48) rfl (zgo rfl (z_aload_n cd_X11_whatIs_48 (j := 0) rfl rfl (p := 49) rfl (zgo rfl (z_aload_n cd_X11_whatIs_49 (j := 0) rfl rfl (p := 50) rfl (zgo rfl (z_getR cd_X11_whatIs_50 fd_X11_28 (p := 53) rfl (fun _ => (zgo rfl (z_iload_n cd_X11_whatIs_53 (j := 1) rfl rfl (p := 54) rfl (zgo rfl (z_aaload cd_X11_whatIs_54 (p := 55) rfl (fun _ => (zgo rfl (z_iload_n cd_X11_whatIs_55 (j := 2) rfl rfl (p := 56) rfl (zgo rfl (z_cv1 cd_X11_whatIs_56 (zv (key := 807) (by decide)) cl_X11_c807 rfl rfl rfl rfl (p := 59) rfl (fun _ => (zgo rfl (z_goto cd_X11_whatIs_59 (p := 73) rfl (zgo rfl (z_iret cd_X11_whatIs_73 rfl))))))))))))))))))))) (zgo rfl (z_aload_n cd_X11_whatIs_62 (j := 0) rfl rfl (p := 63) rfl (zgo rfl (z_aload_n cd_X11_whatIs_63 (j := 0) rfl rfl (p := 64) rfl (zgo rfl (z_getR cd_X11_whatIs_64 fd_X11_28 (p := 67) rfl (fun _ => (zgo rfl (z_iload_n cd_X11_whatIs_67 (j := 1) rfl rfl (p := 68) rfl (zgo rfl (z_aaload cd_X11_whatIs_68 (p := 69) rfl (fun _ => (zgo rfl (z_iload_n cd_X11_whatIs_69 (j := 2) rfl rfl (p := 70) rfl (zgo rfl (z_cv1 cd_X11_whatIs_70 (zv (key := 819) (by decide)) cl_X11_c819 rfl rfl rfl rfl (p := 73) rfl (fun _ => (zgo rfl (z_iret cd_X11_whatIs_73 rfl))))))))))))))))))))))) (zgo rfl (z_iload cd_X11_whatIs_41 rfl (p := 43) rfl (zgo rfl (z_iret cd_X11_whatIs_43 rfl))))))))))))))))) (zgo rfl (z_iconst cd_X11_whatIs_27 ki_m1 (p := 28) rfl (zgo rfl (z_iret cd_X11_whatIs_28 rfl))))))))))))))))))))))))))))))))
theorem cd_X11_kindsThatGrewSo_0 : ylk m_X11_kindsThatGrewSo.2.2.2.2.1 0 = some (.aload_n 0) := by decide +kernel
theorem cd_X11_kindsThatGrewSo_1 : ylk m_X11_kindsThatGrewSo.2.2.2.2.1 1 = some (.getfield 12) := by decide +kernel
theorem cd_X11_kindsThatGrewSo_4 : ylk m_X11_kindsThatGrewSo.2.2.2.2.1 4 = some (.getfield 75) := by decide +kernel
theorem cd_X11_kindsThatGrewSo_7 : ylk m_X11_kindsThatGrewSo.2.2.2.2.1 7 = some (.aload_n 0) := by decide +kernel
theorem cd_X11_kindsThatGrewSo_8 : ylk m_X11_kindsThatGrewSo.2.2.2.2.1 8 = some (.getfield 12) := by decide +kernel
theorem cd_X11_kindsThatGrewSo_11 : ylk m_X11_kindsThatGrewSo.2.2.2.2.1 11 = some (.getfield 93) := by decide +kernel
theorem cd_X11_kindsThatGrewSo_14 : ylk m_X11_kindsThatGrewSo.2.2.2.2.1 14 = some (.iload_n 2) := by decide +kernel
theorem cd_X11_kindsThatGrewSo_15 : ylk m_X11_kindsThatGrewSo.2.2.2.2.1 15 = some (.iaload) := by decide +kernel
theorem cd_X11_kindsThatGrewSo_16 : ylk m_X11_kindsThatGrewSo.2.2.2.2.1 16 = some (.iaload) := by decide +kernel
theorem cd_X11_kindsThatGrewSo_17 : ylk m_X11_kindsThatGrewSo.2.2.2.2.1 17 = some (.istore_n 3) := by decide +kernel
theorem cd_X11_kindsThatGrewSo_18 : ylk m_X11_kindsThatGrewSo.2.2.2.2.1 18 = some (.iconst 0) := by decide +kernel
theorem cd_X11_kindsThatGrewSo_19 : ylk m_X11_kindsThatGrewSo.2.2.2.2.1 19 = some (.istore 4) := by decide +kernel
theorem cd_X11_kindsThatGrewSo_21 : ylk m_X11_kindsThatGrewSo.2.2.2.2.1 21 = some (.iconst 0) := by decide +kernel
theorem cd_X11_kindsThatGrewSo_22 : ylk m_X11_kindsThatGrewSo.2.2.2.2.1 22 = some (.istore 5) := by decide +kernel
theorem cd_X11_kindsThatGrewSo_24 : ylk m_X11_kindsThatGrewSo.2.2.2.2.1 24 = some (.iload 5) := by decide +kernel
theorem cd_X11_kindsThatGrewSo_26 : ylk m_X11_kindsThatGrewSo.2.2.2.2.1 26 = some (.bipush 8) := by decide +kernel
theorem cd_X11_kindsThatGrewSo_28 : ylk m_X11_kindsThatGrewSo.2.2.2.2.1 28 = some (.if_icmp .ge 30) := by decide +kernel
theorem cd_X11_kindsThatGrewSo_31 : ylk m_X11_kindsThatGrewSo.2.2.2.2.1 31 = some (.aload_n 0) := by decide +kernel
theorem cd_X11_kindsThatGrewSo_32 : ylk m_X11_kindsThatGrewSo.2.2.2.2.1 32 = some (.aload_n 1) := by decide +kernel
theorem cd_X11_kindsThatGrewSo_33 : ylk m_X11_kindsThatGrewSo.2.2.2.2.1 33 = some (.iload_n 2) := by decide +kernel
theorem cd_X11_kindsThatGrewSo_34 : ylk m_X11_kindsThatGrewSo.2.2.2.2.1 34 = some (.iload 5) := by decide +kernel
theorem cd_X11_kindsThatGrewSo_36 : ylk m_X11_kindsThatGrewSo.2.2.2.2.1 36 = some (.iload_n 3) := by decide +kernel
theorem cd_X11_kindsThatGrewSo_37 : ylk m_X11_kindsThatGrewSo.2.2.2.2.1 37 = some (.invokevirtual 276) := by decide +kernel
theorem cd_X11_kindsThatGrewSo_40 : ylk m_X11_kindsThatGrewSo.2.2.2.2.1 40 = some (.ifCond .eq 12) := by decide +kernel
theorem cd_X11_kindsThatGrewSo_43 : ylk m_X11_kindsThatGrewSo.2.2.2.2.1 43 = some (.iload 4) := by decide +kernel
theorem cd_X11_kindsThatGrewSo_45 : ylk m_X11_kindsThatGrewSo.2.2.2.2.1 45 = some (.iconst 1) := by decide +kernel
theorem cd_X11_kindsThatGrewSo_46 : ylk m_X11_kindsThatGrewSo.2.2.2.2.1 46 = some (.iload 5) := by decide +kernel
theorem cd_X11_kindsThatGrewSo_48 : ylk m_X11_kindsThatGrewSo.2.2.2.2.1 48 = some (.ishl) := by decide +kernel
theorem cd_X11_kindsThatGrewSo_49 : ylk m_X11_kindsThatGrewSo.2.2.2.2.1 49 = some (.ior) := by decide +kernel
theorem cd_X11_kindsThatGrewSo_50 : ylk m_X11_kindsThatGrewSo.2.2.2.2.1 50 = some (.istore 4) := by decide +kernel
theorem cd_X11_kindsThatGrewSo_52 : ylk m_X11_kindsThatGrewSo.2.2.2.2.1 52 = some (.iinc 5 1) := by decide +kernel
theorem cd_X11_kindsThatGrewSo_55 : ylk m_X11_kindsThatGrewSo.2.2.2.2.1 55 = some (.goto (-31)) := by decide +kernel
theorem cd_X11_kindsThatGrewSo_58 : ylk m_X11_kindsThatGrewSo.2.2.2.2.1 58 = some (.iload 4) := by decide +kernel
theorem cd_X11_kindsThatGrewSo_60 : ylk m_X11_kindsThatGrewSo.2.2.2.2.1 60 = some (.ireturn) := by decide +kernel
noncomputable abbrev yb_X11_kindsThatGrewSo (C : yC) : ySt → Option (Option Value × yM) := yrn m_X11_kindsThatGrewSo C
theorem en_X11_kindsThatGrewSo (n : Nat) (A : yM) (v0 : Nat) (v1 : Nat) (v2 : Int32) : ycall (n + 1) 113 [.ref v0, .ref v1, .int v2] A = ygR A v0 10 0 (fun a1 => ygR A a1 0 3 (fun a2 => ygR A v0 10 0 (fun a3 => ygR A a3 0 6 (fun a4 => yrd A a4 v2 (fun x5 => yrd A a2 x5 (fun x6 => yb_X11_kindsThatGrewSo (ycall n) (24, [some (.ref v0), some (.ref v1), some (.int v2), some (.int x6), some (.int (0 : Int32)), some (.int (0 : Int32))], [], A))))))) := (ybig_blk 15 _).trans (z_aload_n cd_X11_kindsThatGrewSo_0 (j := 0) rfl rfl (p := 1) rfl (zgo rfl (z_getR cd_X11_kindsThatGrewSo_1 fd_X11_12 (p := 4) rfl (fun _ => (zgo rfl (z_getR cd_X11_kindsThatGrewSo_4 fd_X11_75 (p := 7) rfl (fun _ => (zgo rfl (z_aload_n cd_X11_kindsThatGrewSo_7 (j := 0) rfl rfl (p := 8) rfl (zgo rfl (z_getR cd_X11_kindsThatGrewSo_8 fd_X11_12 (p := 11) rfl (fun _ => (zgo rfl (z_getR cd_X11_kindsThatGrewSo_11 fd_X11_93 (p := 14) rfl (fun _ => (zgo rfl (z_iload_n cd_X11_kindsThatGrewSo_14 (j := 2) rfl rfl (p := 15) rfl (zgo rfl (z_iaload cd_X11_kindsThatGrewSo_15 (p := 16) rfl (fun _ => (zgo rfl (z_iaload cd_X11_kindsThatGrewSo_16 (p := 17) rfl (fun _ => (zgo rfl (z_istore_n cd_X11_kindsThatGrewSo_17 (j := 3) rfl rfl (p := 18) rfl (zgo rfl (z_iconst cd_X11_kindsThatGrewSo_18 ki_0 (p := 19) rfl (zgo rfl (z_istore cd_X11_kindsThatGrewSo_19 rfl (p := 21) rfl (zgo rfl (z_iconst cd_X11_kindsThatGrewSo_21 ki_0 (p := 22) rfl (zgo rfl (z_istore cd_X11_kindsThatGrewSo_22 rfl (p := 24) rfl (zcut (p := 24) rfl rfl))))))))))))))))))))))))))))))))))
theorem bk_X11_kindsThatGrewSo_24 (C : yC) (A : yM) (v0 : Nat) (v1 : Nat) (v2 : Int32) (v3 : Int32) (v4 : Int32) (v5 : Int32) : yb_X11_kindsThatGrewSo C (24, [some (.ref v0), some (.ref v1), some (.int v2), some (.int v3), some (.int v4), some (.int v5)], [], A) = if (8 : Int32) ≤ v5 then (some (some (.int v4), A)) else ((yi (yvt [(10, 115)] C [.ref v0, .ref v1, .int v2, .int v5, .int v3] A)).bind (fun z1 => if z1.1 = 0 then (yb_X11_kindsThatGrewSo C (24, [some (.ref v0), some (.ref v1), some (.int v2), some (.int v3), some (.int v4), some (.int (v5 + (1 : Int32)))], [], z1.2)) else (yb_X11_kindsThatGrewSo C (24, [some (.ref v0), some (.ref v1), some (.int v2), some (.int v3), some (.int (v4 ||| ((1 : Int32) <<< (v5 &&& 31)))), some (.int (v5 + (1 : Int32)))], [], z1.2)))) := (ybig_blk 19 _).trans (z_iload cd_X11_kindsThatGrewSo_24 rfl (p := 26) rfl (zgo rfl (z_bipush cd_X11_kindsThatGrewSo_26 kb_8 (p := 28) rfl (zgo rfl (z_ic_ge cd_X11_kindsThatGrewSo_28 (p := 58) rfl (p2 := 31) rfl (zgo rfl (z_iload cd_X11_kindsThatGrewSo_58 rfl (p := 60) rfl (zgo rfl (z_iret cd_X11_kindsThatGrewSo_60 rfl)))) (zgo rfl (z_aload_n cd_X11_kindsThatGrewSo_31 (j := 0) rfl rfl (p := 32) rfl (zgo rfl (z_aload_n cd_X11_kindsThatGrewSo_32 (j := 1) rfl rfl (p := 33) rfl (zgo rfl (z_iload_n cd_X11_kindsThatGrewSo_33 (j := 2) rfl rfl (p := 34) rfl (zgo rfl (z_iload cd_X11_kindsThatGrewSo_34 rfl (p := 36) rfl (zgo rfl (z_iload_n cd_X11_kindsThatGrewSo_36 (j := 3) rfl rfl (p := 37) rfl (zgo rfl (z_cv1 cd_X11_kindsThatGrewSo_37 (zv (key := 828) (by decide)) cl_X11_c828 rfl rfl rfl rfl (p := 40) rfl (fun _ => (zgo rfl (z_if_eq cd_X11_kindsThatGrewSo_40 (p := 52) rfl (p2 := 43) rfl (zgo rfl (z_iinc cd_X11_kindsThatGrewSo_52 ki_1 rfl rfl (p := 55) rfl (zgo rfl (z_goto cd_X11_kindsThatGrewSo_55 (p := 24) rfl (zcut (p := 24) rfl rfl))))) (zgo rfl (z_iload cd_X11_kindsThatGrewSo_43 rfl (p := 45) rfl (zgo rfl (z_iconst cd_X11_kindsThatGrewSo_45 ki_1 (p := 46) rfl (zgo rfl (z_iload cd_X11_kindsThatGrewSo_46 rfl (p := 48) rfl (zgo rfl (z_ishl cd_X11_kindsThatGrewSo_48 (p := 49) rfl (zgo rfl (z_ior cd_X11_kindsThatGrewSo_49 (p := 50) rfl (zgo rfl (z_istore cd_X11_kindsThatGrewSo_50 rfl (p := 52) rfl (zgo rfl (z_iinc cd_X11_kindsThatGrewSo_52 ki_1 rfl rfl (p := 55) rfl (zgo rfl (z_goto cd_X11_kindsThatGrewSo_55 (p := 24) rfl (zcut (p := 24) rfl rfl)))))))))))))))))))))))))))))))))))))
theorem cd_X11_figuresThatGrewSo_0 : ylk m_X11_figuresThatGrewSo.2.2.2.2.1 0 = some (.aload_n 0) := by decide +kernel
theorem cd_X11_figuresThatGrewSo_1 : ylk m_X11_figuresThatGrewSo.2.2.2.2.1 1 = some (.getfield 12) := by decide +kernel
theorem cd_X11_figuresThatGrewSo_4 : ylk m_X11_figuresThatGrewSo.2.2.2.2.1 4 = some (.getfield 72) := by decide +kernel
theorem cd_X11_figuresThatGrewSo_7 : ylk m_X11_figuresThatGrewSo.2.2.2.2.1 7 = some (.aload_n 0) := by decide +kernel
theorem cd_X11_figuresThatGrewSo_8 : ylk m_X11_figuresThatGrewSo.2.2.2.2.1 8 = some (.getfield 12) := by decide +kernel
theorem cd_X11_figuresThatGrewSo_11 : ylk m_X11_figuresThatGrewSo.2.2.2.2.1 11 = some (.getfield 93) := by decide +kernel
theorem cd_X11_figuresThatGrewSo_14 : ylk m_X11_figuresThatGrewSo.2.2.2.2.1 14 = some (.iload_n 2) := by decide +kernel
theorem cd_X11_figuresThatGrewSo_15 : ylk m_X11_figuresThatGrewSo.2.2.2.2.1 15 = some (.iaload) := by decide +kernel
theorem cd_X11_figuresThatGrewSo_16 : ylk m_X11_figuresThatGrewSo.2.2.2.2.1 16 = some (.iaload) := by decide +kernel
theorem cd_X11_figuresThatGrewSo_17 : ylk m_X11_figuresThatGrewSo.2.2.2.2.1 17 = some (.istore_n 3) := by decide +kernel
theorem cd_X11_figuresThatGrewSo_18 : ylk m_X11_figuresThatGrewSo.2.2.2.2.1 18 = some (.iconst 0) := by decide +kernel
theorem cd_X11_figuresThatGrewSo_19 : ylk m_X11_figuresThatGrewSo.2.2.2.2.1 19 = some (.istore 4) := by decide +kernel
theorem cd_X11_figuresThatGrewSo_21 : ylk m_X11_figuresThatGrewSo.2.2.2.2.1 21 = some (.iconst 0) := by decide +kernel
theorem cd_X11_figuresThatGrewSo_22 : ylk m_X11_figuresThatGrewSo.2.2.2.2.1 22 = some (.istore 5) := by decide +kernel
theorem cd_X11_figuresThatGrewSo_24 : ylk m_X11_figuresThatGrewSo.2.2.2.2.1 24 = some (.iload 5) := by decide +kernel
theorem cd_X11_figuresThatGrewSo_26 : ylk m_X11_figuresThatGrewSo.2.2.2.2.1 26 = some (.bipush 10) := by decide +kernel
theorem cd_X11_figuresThatGrewSo_28 : ylk m_X11_figuresThatGrewSo.2.2.2.2.1 28 = some (.if_icmp .ge 30) := by decide +kernel
theorem cd_X11_figuresThatGrewSo_31 : ylk m_X11_figuresThatGrewSo.2.2.2.2.1 31 = some (.aload_n 0) := by decide +kernel
theorem cd_X11_figuresThatGrewSo_32 : ylk m_X11_figuresThatGrewSo.2.2.2.2.1 32 = some (.aload_n 1) := by decide +kernel
theorem cd_X11_figuresThatGrewSo_33 : ylk m_X11_figuresThatGrewSo.2.2.2.2.1 33 = some (.iload_n 2) := by decide +kernel
theorem cd_X11_figuresThatGrewSo_34 : ylk m_X11_figuresThatGrewSo.2.2.2.2.1 34 = some (.iload_n 3) := by decide +kernel
theorem cd_X11_figuresThatGrewSo_35 : ylk m_X11_figuresThatGrewSo.2.2.2.2.1 35 = some (.iload 5) := by decide +kernel
theorem cd_X11_figuresThatGrewSo_37 : ylk m_X11_figuresThatGrewSo.2.2.2.2.1 37 = some (.invokevirtual 276) := by decide +kernel
theorem cd_X11_figuresThatGrewSo_40 : ylk m_X11_figuresThatGrewSo.2.2.2.2.1 40 = some (.ifCond .eq 12) := by decide +kernel
theorem cd_X11_figuresThatGrewSo_43 : ylk m_X11_figuresThatGrewSo.2.2.2.2.1 43 = some (.iload 4) := by decide +kernel
theorem cd_X11_figuresThatGrewSo_45 : ylk m_X11_figuresThatGrewSo.2.2.2.2.1 45 = some (.iconst 1) := by decide +kernel
theorem cd_X11_figuresThatGrewSo_46 : ylk m_X11_figuresThatGrewSo.2.2.2.2.1 46 = some (.iload 5) := by decide +kernel
theorem cd_X11_figuresThatGrewSo_48 : ylk m_X11_figuresThatGrewSo.2.2.2.2.1 48 = some (.ishl) := by decide +kernel
theorem cd_X11_figuresThatGrewSo_49 : ylk m_X11_figuresThatGrewSo.2.2.2.2.1 49 = some (.ior) := by decide +kernel
theorem cd_X11_figuresThatGrewSo_50 : ylk m_X11_figuresThatGrewSo.2.2.2.2.1 50 = some (.istore 4) := by decide +kernel
theorem cd_X11_figuresThatGrewSo_52 : ylk m_X11_figuresThatGrewSo.2.2.2.2.1 52 = some (.iinc 5 1) := by decide +kernel
theorem cd_X11_figuresThatGrewSo_55 : ylk m_X11_figuresThatGrewSo.2.2.2.2.1 55 = some (.goto (-31)) := by decide +kernel
theorem cd_X11_figuresThatGrewSo_58 : ylk m_X11_figuresThatGrewSo.2.2.2.2.1 58 = some (.iload 4) := by decide +kernel
theorem cd_X11_figuresThatGrewSo_60 : ylk m_X11_figuresThatGrewSo.2.2.2.2.1 60 = some (.ireturn) := by decide +kernel
noncomputable abbrev yb_X11_figuresThatGrewSo (C : yC) : ySt → Option (Option Value × yM) := yrn m_X11_figuresThatGrewSo C
theorem en_X11_figuresThatGrewSo (n : Nat) (A : yM) (v0 : Nat) (v1 : Nat) (v2 : Int32) : ycall (n + 1) 114 [.ref v0, .ref v1, .int v2] A = ygR A v0 10 0 (fun a1 => ygR A a1 0 2 (fun a2 => ygR A v0 10 0 (fun a3 => ygR A a3 0 6 (fun a4 => yrd A a4 v2 (fun x5 => yrd A a2 x5 (fun x6 => yb_X11_figuresThatGrewSo (ycall n) (24, [some (.ref v0), some (.ref v1), some (.int v2), some (.int x6), some (.int (0 : Int32)), some (.int (0 : Int32))], [], A))))))) := (ybig_blk 15 _).trans (z_aload_n cd_X11_figuresThatGrewSo_0 (j := 0) rfl rfl (p := 1) rfl (zgo rfl (z_getR cd_X11_figuresThatGrewSo_1 fd_X11_12 (p := 4) rfl (fun _ => (zgo rfl (z_getR cd_X11_figuresThatGrewSo_4 fd_X11_72 (p := 7) rfl (fun _ => (zgo rfl (z_aload_n cd_X11_figuresThatGrewSo_7 (j := 0) rfl rfl (p := 8) rfl (zgo rfl (z_getR cd_X11_figuresThatGrewSo_8 fd_X11_12 (p := 11) rfl (fun _ => (zgo rfl (z_getR cd_X11_figuresThatGrewSo_11 fd_X11_93 (p := 14) rfl (fun _ => (zgo rfl (z_iload_n cd_X11_figuresThatGrewSo_14 (j := 2) rfl rfl (p := 15) rfl (zgo rfl (z_iaload cd_X11_figuresThatGrewSo_15 (p := 16) rfl (fun _ => (zgo rfl (z_iaload cd_X11_figuresThatGrewSo_16 (p := 17) rfl (fun _ => (zgo rfl (z_istore_n cd_X11_figuresThatGrewSo_17 (j := 3) rfl rfl (p := 18) rfl (zgo rfl (z_iconst cd_X11_figuresThatGrewSo_18 ki_0 (p := 19) rfl (zgo rfl (z_istore cd_X11_figuresThatGrewSo_19 rfl (p := 21) rfl (zgo rfl (z_iconst cd_X11_figuresThatGrewSo_21 ki_0 (p := 22) rfl (zgo rfl (z_istore cd_X11_figuresThatGrewSo_22 rfl (p := 24) rfl (zcut (p := 24) rfl rfl))))))))))))))))))))))))))))))))))
theorem bk_X11_figuresThatGrewSo_24 (C : yC) (A : yM) (v0 : Nat) (v1 : Nat) (v2 : Int32) (v3 : Int32) (v4 : Int32) (v5 : Int32) : yb_X11_figuresThatGrewSo C (24, [some (.ref v0), some (.ref v1), some (.int v2), some (.int v3), some (.int v4), some (.int v5)], [], A) = if (10 : Int32) ≤ v5 then (some (some (.int v4), A)) else ((yi (yvt [(10, 115)] C [.ref v0, .ref v1, .int v2, .int v3, .int v5] A)).bind (fun z1 => if z1.1 = 0 then (yb_X11_figuresThatGrewSo C (24, [some (.ref v0), some (.ref v1), some (.int v2), some (.int v3), some (.int v4), some (.int (v5 + (1 : Int32)))], [], z1.2)) else (yb_X11_figuresThatGrewSo C (24, [some (.ref v0), some (.ref v1), some (.int v2), some (.int v3), some (.int (v4 ||| ((1 : Int32) <<< (v5 &&& 31)))), some (.int (v5 + (1 : Int32)))], [], z1.2)))) := (ybig_blk 19 _).trans (z_iload cd_X11_figuresThatGrewSo_24 rfl (p := 26) rfl (zgo rfl (z_bipush cd_X11_figuresThatGrewSo_26 kb_10 (p := 28) rfl (zgo rfl (z_ic_ge cd_X11_figuresThatGrewSo_28 (p := 58) rfl (p2 := 31) rfl (zgo rfl (z_iload cd_X11_figuresThatGrewSo_58 rfl (p := 60) rfl (zgo rfl (z_iret cd_X11_figuresThatGrewSo_60 rfl)))) (zgo rfl (z_aload_n cd_X11_figuresThatGrewSo_31 (j := 0) rfl rfl (p := 32) rfl (zgo rfl (z_aload_n cd_X11_figuresThatGrewSo_32 (j := 1) rfl rfl (p := 33) rfl (zgo rfl (z_iload_n cd_X11_figuresThatGrewSo_33 (j := 2) rfl rfl (p := 34) rfl (zgo rfl (z_iload_n cd_X11_figuresThatGrewSo_34 (j := 3) rfl rfl (p := 35) rfl (zgo rfl (z_iload cd_X11_figuresThatGrewSo_35 rfl (p := 37) rfl (zgo rfl (z_cv1 cd_X11_figuresThatGrewSo_37 (zv (key := 828) (by decide)) cl_X11_c828 rfl rfl rfl rfl (p := 40) rfl (fun _ => (zgo rfl (z_if_eq cd_X11_figuresThatGrewSo_40 (p := 52) rfl (p2 := 43) rfl (zgo rfl (z_iinc cd_X11_figuresThatGrewSo_52 ki_1 rfl rfl (p := 55) rfl (zgo rfl (z_goto cd_X11_figuresThatGrewSo_55 (p := 24) rfl (zcut (p := 24) rfl rfl))))) (zgo rfl (z_iload cd_X11_figuresThatGrewSo_43 rfl (p := 45) rfl (zgo rfl (z_iconst cd_X11_figuresThatGrewSo_45 ki_1 (p := 46) rfl (zgo rfl (z_iload cd_X11_figuresThatGrewSo_46 rfl (p := 48) rfl (zgo rfl (z_ishl cd_X11_figuresThatGrewSo_48 (p := 49) rfl (zgo rfl (z_ior cd_X11_figuresThatGrewSo_49 (p := 50) rfl (zgo rfl (z_istore cd_X11_figuresThatGrewSo_50 rfl (p := 52) rfl (zgo rfl (z_iinc cd_X11_figuresThatGrewSo_52 ki_1 rfl rfl (p := 55) rfl (zgo rfl (z_goto cd_X11_figuresThatGrewSo_55 (p := 24) rfl (zcut (p := 24) rfl rfl)))))))))))))))))))))))))))))))))))))
theorem cd_X11_grewSo_0 : ylk m_X11_grewSo.2.2.2.2.1 0 = some (.aload_n 0) := by decide +kernel
theorem cd_X11_grewSo_1 : ylk m_X11_grewSo.2.2.2.2.1 1 = some (.getfield 12) := by decide +kernel
theorem cd_X11_grewSo_4 : ylk m_X11_grewSo.2.2.2.2.1 4 = some (.iload_n 2) := by decide +kernel
theorem cd_X11_grewSo_5 : ylk m_X11_grewSo.2.2.2.2.1 5 = some (.invokevirtual 280) := by decide +kernel
theorem cd_X11_grewSo_8 : ylk m_X11_grewSo.2.2.2.2.1 8 = some (.istore 5) := by decide +kernel
theorem cd_X11_grewSo_10 : ylk m_X11_grewSo.2.2.2.2.1 10 = some (.aload_n 0) := by decide +kernel
theorem cd_X11_grewSo_11 : ylk m_X11_grewSo.2.2.2.2.1 11 = some (.getfield 12) := by decide +kernel
theorem cd_X11_grewSo_14 : ylk m_X11_grewSo.2.2.2.2.1 14 = some (.getfield 99) := by decide +kernel
theorem cd_X11_grewSo_17 : ylk m_X11_grewSo.2.2.2.2.1 17 = some (.iload_n 2) := by decide +kernel
theorem cd_X11_grewSo_18 : ylk m_X11_grewSo.2.2.2.2.1 18 = some (.iaload) := by decide +kernel
theorem cd_X11_grewSo_19 : ylk m_X11_grewSo.2.2.2.2.1 19 = some (.istore 6) := by decide +kernel
theorem cd_X11_grewSo_21 : ylk m_X11_grewSo.2.2.2.2.1 21 = some (.iconst 0) := by decide +kernel
theorem cd_X11_grewSo_22 : ylk m_X11_grewSo.2.2.2.2.1 22 = some (.istore 7) := by decide +kernel
theorem cd_X11_grewSo_24 : ylk m_X11_grewSo.2.2.2.2.1 24 = some (.iload 7) := by decide +kernel
theorem cd_X11_grewSo_26 : ylk m_X11_grewSo.2.2.2.2.1 26 = some (.aload_n 1) := by decide +kernel
theorem cd_X11_grewSo_27 : ylk m_X11_grewSo.2.2.2.2.1 27 = some (.getfield 257) := by decide +kernel
theorem cd_X11_grewSo_30 : ylk m_X11_grewSo.2.2.2.2.1 30 = some (.if_icmp .ge 76) := by decide +kernel
theorem cd_X11_grewSo_33 : ylk m_X11_grewSo.2.2.2.2.1 33 = some (.iload 7) := by decide +kernel
theorem cd_X11_grewSo_35 : ylk m_X11_grewSo.2.2.2.2.1 35 = some (.ifCond .le 42) := by decide +kernel
theorem cd_X11_grewSo_38 : ylk m_X11_grewSo.2.2.2.2.1 38 = some (.iload 5) := by decide +kernel
theorem cd_X11_grewSo_40 : ylk m_X11_grewSo.2.2.2.2.1 40 = some (.ifCond .eq 37) := by decide +kernel
theorem cd_X11_grewSo_43 : ylk m_X11_grewSo.2.2.2.2.1 43 = some (.bipush 99) := by decide +kernel
theorem cd_X11_grewSo_45 : ylk m_X11_grewSo.2.2.2.2.1 45 = some (.iload 6) := by decide +kernel
theorem cd_X11_grewSo_47 : ylk m_X11_grewSo.2.2.2.2.1 47 = some (.aload_n 0) := by decide +kernel
theorem cd_X11_grewSo_48 : ylk m_X11_grewSo.2.2.2.2.1 48 = some (.getfield 12) := by decide +kernel
theorem cd_X11_grewSo_51 : ylk m_X11_grewSo.2.2.2.2.1 51 = some (.getfield 283) := by decide +kernel
theorem cd_X11_grewSo_54 : ylk m_X11_grewSo.2.2.2.2.1 54 = some (.iload_n 3) := by decide +kernel
theorem cd_X11_grewSo_55 : ylk m_X11_grewSo.2.2.2.2.1 55 = some (.aaload) := by decide +kernel
theorem cd_X11_grewSo_56 : ylk m_X11_grewSo.2.2.2.2.1 56 = some (.iload 4) := by decide +kernel
theorem cd_X11_grewSo_58 : ylk m_X11_grewSo.2.2.2.2.1 58 = some (.aload_n 0) := by decide +kernel
theorem cd_X11_grewSo_59 : ylk m_X11_grewSo.2.2.2.2.1 59 = some (.getfield 12) := by decide +kernel
theorem cd_X11_grewSo_62 : ylk m_X11_grewSo.2.2.2.2.1 62 = some (.getfield 287) := by decide +kernel
theorem cd_X11_grewSo_65 : ylk m_X11_grewSo.2.2.2.2.1 65 = some (.iload 7) := by decide +kernel
theorem cd_X11_grewSo_67 : ylk m_X11_grewSo.2.2.2.2.1 67 = some (.iadd) := by decide +kernel
theorem cd_X11_grewSo_68 : ylk m_X11_grewSo.2.2.2.2.1 68 = some (.invokevirtual 290) := by decide +kernel
theorem cd_X11_grewSo_71 : ylk m_X11_grewSo.2.2.2.2.1 71 = some (.iadd) := by decide +kernel
theorem cd_X11_grewSo_72 : ylk m_X11_grewSo.2.2.2.2.1 72 = some (.invokestatic 295) := by decide +kernel
theorem cd_X11_grewSo_75 : ylk m_X11_grewSo.2.2.2.2.1 75 = some (.istore 6) := by decide +kernel
theorem cd_X11_grewSo_77 : ylk m_X11_grewSo.2.2.2.2.1 77 = some (.aload_n 1) := by decide +kernel
theorem cd_X11_grewSo_78 : ylk m_X11_grewSo.2.2.2.2.1 78 = some (.iload 7) := by decide +kernel
theorem cd_X11_grewSo_80 : ylk m_X11_grewSo.2.2.2.2.1 80 = some (.invokevirtual 298) := by decide +kernel
theorem cd_X11_grewSo_83 : ylk m_X11_grewSo.2.2.2.2.1 83 = some (.ifCond .ne 17) := by decide +kernel
theorem cd_X11_grewSo_86 : ylk m_X11_grewSo.2.2.2.2.1 86 = some (.aload_n 1) := by decide +kernel
theorem cd_X11_grewSo_87 : ylk m_X11_grewSo.2.2.2.2.1 87 = some (.getfield 260) := by decide +kernel
theorem cd_X11_grewSo_90 : ylk m_X11_grewSo.2.2.2.2.1 90 = some (.iload 7) := by decide +kernel
theorem cd_X11_grewSo_92 : ylk m_X11_grewSo.2.2.2.2.1 92 = some (.iaload) := by decide +kernel
theorem cd_X11_grewSo_93 : ylk m_X11_grewSo.2.2.2.2.1 93 = some (.iload 6) := by decide +kernel
theorem cd_X11_grewSo_95 : ylk m_X11_grewSo.2.2.2.2.1 95 = some (.if_icmp .eq 5) := by decide +kernel
theorem cd_X11_grewSo_98 : ylk m_X11_grewSo.2.2.2.2.1 98 = some (.iconst 0) := by decide +kernel
theorem cd_X11_grewSo_99 : ylk m_X11_grewSo.2.2.2.2.1 99 = some (.ireturn) := by decide +kernel
theorem cd_X11_grewSo_100 : ylk m_X11_grewSo.2.2.2.2.1 100 = some (.iinc 7 1) := by decide +kernel
theorem cd_X11_grewSo_103 : ylk m_X11_grewSo.2.2.2.2.1 103 = some (.goto (-79)) := by decide +kernel
theorem cd_X11_grewSo_106 : ylk m_X11_grewSo.2.2.2.2.1 106 = some (.iconst 1) := by decide +kernel
theorem cd_X11_grewSo_107 : ylk m_X11_grewSo.2.2.2.2.1 107 = some (.ireturn) := by decide +kernel
noncomputable abbrev yb_X11_grewSo (C : yC) : ySt → Option (Option Value × yM) := yrn m_X11_grewSo C
theorem en_X11_grewSo (n : Nat) (A : yM) (v0 : Nat) (v1 : Nat) (v2 : Int32) (v3 : Int32) (v4 : Int32) : ycall (n + 1) 115 [.ref v0, .ref v1, .int v2, .int v3, .int v4] A = ygR A v0 10 0 (fun a1 => (yi (yvt [(0, 11)] (ycall n) [.ref a1, .int v2] A)).bind (fun z2 => ygR z2.2 v0 10 0 (fun a3 => ygR z2.2 a3 0 8 (fun a4 => yrd z2.2 a4 v2 (fun x5 => yb_X11_grewSo (ycall n) (24, [some (.ref v0), some (.ref v1), none, some (.int v3), some (.int v4), some (.int z2.1), some (.int x5), some (.int (0 : Int32))], [], z2.2)))))) := (ybig_blk 14 _).trans (z_aload_n cd_X11_grewSo_0 (j := 0) rfl rfl (p := 1) rfl (zgo rfl (z_getR cd_X11_grewSo_1 fd_X11_12 (p := 4) rfl (fun _ => (zgo rfl (z_iload_n cd_X11_grewSo_4 (j := 2) rfl rfl (p := 5) rfl (zgo rfl (z_cv1 cd_X11_grewSo_5 (zv (key := 840) (by decide)) cl_X11_c840 rfl rfl rfl rfl (p := 8) rfl (fun _ => (zgo rfl (z_istore cd_X11_grewSo_8 rfl (p := 10) rfl (zgo rfl (z_aload_n cd_X11_grewSo_10 (j := 0) rfl rfl (p := 11) rfl (zgo rfl (z_getR cd_X11_grewSo_11 fd_X11_12 (p := 14) rfl (fun _ => (zgo rfl (z_getR cd_X11_grewSo_14 fd_X11_99 (p := 17) rfl (fun _ => (zgo rfl (z_iload_n cd_X11_grewSo_17 (j := 2) rfl rfl (p := 18) rfl (zgo rfl (z_iaload cd_X11_grewSo_18 (p := 19) rfl (fun _ => (zgo rfl (z_istore cd_X11_grewSo_19 rfl (p := 21) rfl (zgo rfl (z_iconst cd_X11_grewSo_21 ki_0 (p := 22) rfl (zgo rfl (z_istore cd_X11_grewSo_22 rfl (p := 24) rfl (zcut (p := 24) rfl rfl)))))))))))))))))))))))))))))))
theorem bk_X11_grewSo_24 (C : yC) (A : yM) (v0 : Nat) (v1 : Nat) (v3 : Int32) (v4 : Int32) (v5 : Int32) (v6 : Int32) (v7 : Int32) : yb_X11_grewSo C (24, [some (.ref v0), some (.ref v1), none, some (.int v3), some (.int v4), some (.int v5), some (.int v6), some (.int v7)], [], A) = ygI A v1 7 4 (fun x1 => if x1 ≤ v7 then (if (1 : Int32) = 0 ∨ (1 : Int32) = 1 then some (some (.int (1 : Int32)), A) else none) else (if v7 ≤ 0 then (yb_X11_grewSo C (77, [some (.ref v0), some (.ref v1), none, some (.int v3), some (.int v4), some (.int v5), some (.int v6), some (.int v7)], [], A)) else (if v5 = 0 then (yb_X11_grewSo C (77, [some (.ref v0), some (.ref v1), none, some (.int v3), some (.int v4), some (.int v5), some (.int v6), some (.int v7)], [], A)) else (ygR A v0 10 0 (fun a2 => ygR A a2 0 0 (fun a3 => yrR A a3 v3 (fun a4 => ygR A v0 10 0 (fun a5 => ygI A a5 0 12 (fun x6 => (yi (yvt [(1, 34), (2, 37), (3, 40), (4, 43), (5, 46), (6, 49), (8, 60), (9, 70)] C [.ref a4, .int v4, .int (x6 + v7)] A)).bind (fun z7 => yb_X11_grewSo C (77, [some (.ref v0), some (.ref v1), none, some (.int v3), some (.int v4), some (.int v5), some (.int (if (v6 + z7.1) < (99 : Int32) then (v6 + z7.1) else (99 : Int32))), some (.int v7)], [], z7.2))))))))))) := (ybig_blk 26 _).trans (z_iload cd_X11_grewSo_24 rfl (p := 26) rfl (zgo rfl (z_aload_n cd_X11_grewSo_26 (j := 1) rfl rfl (p := 27) rfl (zgo rfl (z_getI cd_X11_grewSo_27 fd_X11_257 (p := 30) rfl (fun _ => (zgo rfl (z_ic_ge cd_X11_grewSo_30 (p := 106) rfl (p2 := 33) rfl (zgo rfl (z_iconst cd_X11_grewSo_106 ki_1 (p := 107) rfl (zgo rfl (z_zret cd_X11_grewSo_107 rfl)))) (zgo rfl (z_iload cd_X11_grewSo_33 rfl (p := 35) rfl (zgo rfl (z_if_le cd_X11_grewSo_35 (p := 77) rfl (p2 := 38) rfl (zcut (p := 77) rfl rfl) (zgo rfl (z_iload cd_X11_grewSo_38 rfl (p := 40) rfl (zgo rfl (z_if_eq cd_X11_grewSo_40 (p := 77) rfl (p2 := 43) rfl (zcut (p := 77) rfl rfl) (zgo rfl (z_bipush cd_X11_grewSo_43 kb_99 (p := 45) rfl (zgo rfl (z_iload cd_X11_grewSo_45 rfl (p := 47) rfl (zgo rfl (z_aload_n cd_X11_grewSo_47 (j := 0) rfl rfl (p := 48) rfl (zgo rfl (z_getR cd_X11_grewSo_48 fd_X11_12 (p := 51) rfl (fun _ => (zgo rfl (z_getR cd_X11_grewSo_51 fd_X11_283 (p := 54) rfl (fun _ => (zgo rfl (z_iload_n cd_X11_grewSo_54 (j := 3) rfl rfl (p := 55) rfl (zgo rfl (z_aaload cd_X11_grewSo_55 (p := 56) rfl (fun _ => (zgo rfl (z_iload cd_X11_grewSo_56 rfl (p := 58) rfl (zgo rfl (z_aload_n cd_X11_grewSo_58 (j := 0) rfl rfl (p := 59) rfl (zgo rfl (z_getR cd_X11_grewSo_59 fd_X11_12 (p := 62) rfl (fun _ => (zgo rfl (z_getI cd_X11_grewSo_62 fd_X11_287 (p := 65) rfl (fun _ => (zgo rfl (z_iload cd_X11_grewSo_65 rfl (p := 67) rfl (zgo rfl (z_iadd cd_X11_grewSo_67 (p := 68) rfl (zgo rfl (z_cv1 cd_X11_grewSo_68 (zv (key := 870) (by decide)) cl_X11_c870 rfl rfl rfl rfl (p := 71) rfl (fun _ => (zgo rfl (z_iadd cd_X11_grewSo_71 (p := 72) rfl (zgo rfl (z_min cd_X11_grewSo_72 (zs (key := 886) (by decide)) cl_X11_c886 rfl (p := 75) rfl (zgo rfl (z_istore cd_X11_grewSo_75 rfl (p := 77) rfl (zcut (p := 77) rfl rfl)))))))))))))))))))))))))))))))))))))))))))))))))))))))))
theorem bk_X11_grewSo_77 (C : yC) (A : yM) (v0 : Nat) (v1 : Nat) (v3 : Int32) (v4 : Int32) (v5 : Int32) (v6 : Int32) (v7 : Int32) : yb_X11_grewSo C (77, [some (.ref v0), some (.ref v1), none, some (.int v3), some (.int v4), some (.int v5), some (.int v6), some (.int v7)], [], A) = (yi (yvt [(7, 58)] C [.ref v1, .int v7] A)).bind (fun z1 => if z1.1 = 0 then (ygR z1.2 v1 7 5 (fun a2 => yrd z1.2 a2 v7 (fun x3 => if x3 = v6 then (yb_X11_grewSo C (24, [some (.ref v0), some (.ref v1), none, some (.int v3), some (.int v4), some (.int v5), some (.int v6), some (.int (v7 + (1 : Int32)))], [], z1.2)) else (if (0 : Int32) = 0 ∨ (0 : Int32) = 1 then some (some (.int (0 : Int32)), z1.2) else none)))) else (yb_X11_grewSo C (24, [some (.ref v0), some (.ref v1), none, some (.int v3), some (.int v4), some (.int v5), some (.int v6), some (.int (v7 + (1 : Int32)))], [], z1.2))) := (ybig_blk 13 _).trans (z_aload_n cd_X11_grewSo_77 (j := 1) rfl rfl (p := 78) rfl (zgo rfl (z_iload cd_X11_grewSo_78 rfl (p := 80) rfl (zgo rfl (z_cv1 cd_X11_grewSo_80 (zv (key := 894) (by decide)) cl_X11_c894 rfl rfl rfl rfl (p := 83) rfl (fun _ => (zgo rfl (z_if_ne cd_X11_grewSo_83 (p := 100) rfl (p2 := 86) rfl (zgo rfl (z_aload_n cd_X11_grewSo_86 (j := 1) rfl rfl (p := 87) rfl (zgo rfl (z_getR cd_X11_grewSo_87 fd_X11_260 (p := 90) rfl (fun _ => (zgo rfl (z_iload cd_X11_grewSo_90 rfl (p := 92) rfl (zgo rfl (z_iaload cd_X11_grewSo_92 (p := 93) rfl (fun _ => (zgo rfl (z_iload cd_X11_grewSo_93 rfl (p := 95) rfl (zgo rfl (z_ic_eq cd_X11_grewSo_95 (p := 100) rfl (p2 := 98) rfl (zgo rfl (z_iinc cd_X11_grewSo_100 ki_1 rfl rfl (p := 103) rfl (zgo rfl (z_goto cd_X11_grewSo_103 (p := 24) rfl (zcut (p := 24) rfl rfl))))) (zgo rfl (z_iconst cd_X11_grewSo_98 ki_0 (p := 99) rfl (zgo rfl (z_zret cd_X11_grewSo_99 rfl)))))))))))))))))) (zgo rfl (z_iinc cd_X11_grewSo_100 ki_1 rfl rfl (p := 103) rfl (zgo rfl (z_goto cd_X11_grewSo_103 (p := 24) rfl (zcut (p := 24) rfl rfl)))))))))))))
theorem cd_X11_two_0 : ylk m_X11_two.2.2.2.2.1 0 = some (.aload_n 0) := by decide +kernel
theorem cd_X11_two_1 : ylk m_X11_two.2.2.2.2.1 1 = some (.iload_n 1) := by decide +kernel
theorem cd_X11_two_2 : ylk m_X11_two.2.2.2.2.1 2 = some (.iload_n 2) := by decide +kernel
theorem cd_X11_two_3 : ylk m_X11_two.2.2.2.2.1 3 = some (.invokevirtual 173) := by decide +kernel
theorem cd_X11_two_6 : ylk m_X11_two.2.2.2.2.1 6 = some (.ifCond .ne 5) := by decide +kernel
theorem cd_X11_two_9 : ylk m_X11_two.2.2.2.2.1 9 = some (.iconst (-1)) := by decide +kernel
theorem cd_X11_two_10 : ylk m_X11_two.2.2.2.2.1 10 = some (.ireturn) := by decide +kernel
theorem cd_X11_two_11 : ylk m_X11_two.2.2.2.2.1 11 = some (.aload_n 0) := by decide +kernel
theorem cd_X11_two_12 : ylk m_X11_two.2.2.2.2.1 12 = some (.getfield 12) := by decide +kernel
theorem cd_X11_two_15 : ylk m_X11_two.2.2.2.2.1 15 = some (.iload_n 1) := by decide +kernel
theorem cd_X11_two_16 : ylk m_X11_two.2.2.2.2.1 16 = some (.invokevirtual 301) := by decide +kernel
theorem cd_X11_two_19 : ylk m_X11_two.2.2.2.2.1 19 = some (.istore_n 3) := by decide +kernel
theorem cd_X11_two_20 : ylk m_X11_two.2.2.2.2.1 20 = some (.aload_n 0) := by decide +kernel
theorem cd_X11_two_21 : ylk m_X11_two.2.2.2.2.1 21 = some (.getfield 12) := by decide +kernel
theorem cd_X11_two_24 : ylk m_X11_two.2.2.2.2.1 24 = some (.iload_n 2) := by decide +kernel
theorem cd_X11_two_25 : ylk m_X11_two.2.2.2.2.1 25 = some (.invokevirtual 301) := by decide +kernel
theorem cd_X11_two_28 : ylk m_X11_two.2.2.2.2.1 28 = some (.istore 4) := by decide +kernel
theorem cd_X11_two_30 : ylk m_X11_two.2.2.2.2.1 30 = some (.aload_n 0) := by decide +kernel
theorem cd_X11_two_31 : ylk m_X11_two.2.2.2.2.1 31 = some (.getfield 12) := by decide +kernel
theorem cd_X11_two_34 : ylk m_X11_two.2.2.2.2.1 34 = some (.iload_n 1) := by decide +kernel
theorem cd_X11_two_35 : ylk m_X11_two.2.2.2.2.1 35 = some (.invokevirtual 78) := by decide +kernel
theorem cd_X11_two_38 : ylk m_X11_two.2.2.2.2.1 38 = some (.ifCond .eq 23) := by decide +kernel
theorem cd_X11_two_41 : ylk m_X11_two.2.2.2.2.1 41 = some (.aload_n 0) := by decide +kernel
theorem cd_X11_two_42 : ylk m_X11_two.2.2.2.2.1 42 = some (.getfield 12) := by decide +kernel
theorem cd_X11_two_45 : ylk m_X11_two.2.2.2.2.1 45 = some (.iload_n 2) := by decide +kernel
theorem cd_X11_two_46 : ylk m_X11_two.2.2.2.2.1 46 = some (.invokevirtual 78) := by decide +kernel
theorem cd_X11_two_49 : ylk m_X11_two.2.2.2.2.1 49 = some (.ifCond .eq 12) := by decide +kernel
theorem cd_X11_two_52 : ylk m_X11_two.2.2.2.2.1 52 = some (.iload_n 3) := by decide +kernel
theorem cd_X11_two_53 : ylk m_X11_two.2.2.2.2.1 53 = some (.ifCond .lt 8) := by decide +kernel
theorem cd_X11_two_56 : ylk m_X11_two.2.2.2.2.1 56 = some (.iload 4) := by decide +kernel
theorem cd_X11_two_58 : ylk m_X11_two.2.2.2.2.1 58 = some (.ifCond .ge 6) := by decide +kernel
theorem cd_X11_two_61 : ylk m_X11_two.2.2.2.2.1 61 = some (.bipush (-3)) := by decide +kernel
theorem cd_X11_two_63 : ylk m_X11_two.2.2.2.2.1 63 = some (.ireturn) := by decide +kernel
theorem cd_X11_two_64 : ylk m_X11_two.2.2.2.2.1 64 = some (.aload_n 0) := by decide +kernel
theorem cd_X11_two_65 : ylk m_X11_two.2.2.2.2.1 65 = some (.getfield 16) := by decide +kernel
theorem cd_X11_two_68 : ylk m_X11_two.2.2.2.2.1 68 = some (.aload_n 0) := by decide +kernel
theorem cd_X11_two_69 : ylk m_X11_two.2.2.2.2.1 69 = some (.getfield 12) := by decide +kernel
theorem cd_X11_two_72 : ylk m_X11_two.2.2.2.2.1 72 = some (.invokevirtual 57) := by decide +kernel
theorem cd_X11_two_75 : ylk m_X11_two.2.2.2.2.1 75 = some (.iconst 0) := by decide +kernel
theorem cd_X11_two_76 : ylk m_X11_two.2.2.2.2.1 76 = some (.istore 5) := by decide +kernel
theorem cd_X11_two_78 : ylk m_X11_two.2.2.2.2.1 78 = some (.iload 5) := by decide +kernel
theorem cd_X11_two_80 : ylk m_X11_two.2.2.2.2.1 80 = some (.iconst 4) := by decide +kernel
theorem cd_X11_two_81 : ylk m_X11_two.2.2.2.2.1 81 = some (.if_icmp .ge 97) := by decide +kernel
theorem cd_X11_two_84 : ylk m_X11_two.2.2.2.2.1 84 = some (.aload_n 0) := by decide +kernel
theorem cd_X11_two_85 : ylk m_X11_two.2.2.2.2.1 85 = some (.getfield 16) := by decide +kernel
theorem cd_X11_two_88 : ylk m_X11_two.2.2.2.2.1 88 = some (.getfield 99) := by decide +kernel
theorem cd_X11_two_91 : ylk m_X11_two.2.2.2.2.1 91 = some (.iload_n 3) := by decide +kernel
theorem cd_X11_two_92 : ylk m_X11_two.2.2.2.2.1 92 = some (.aload_n 0) := by decide +kernel
theorem cd_X11_two_93 : ylk m_X11_two.2.2.2.2.1 93 = some (.iload_n 3) := by decide +kernel
theorem cd_X11_two_94 : ylk m_X11_two.2.2.2.2.1 94 = some (.iload 5) := by decide +kernel
theorem cd_X11_two_96 : ylk m_X11_two.2.2.2.2.1 96 = some (.iconst 1) := by decide +kernel
theorem cd_X11_two_97 : ylk m_X11_two.2.2.2.2.1 97 = some (.ishr) := by decide +kernel
theorem cd_X11_two_98 : ylk m_X11_two.2.2.2.2.1 98 = some (.invokevirtual 304) := by decide +kernel
theorem cd_X11_two_101 : ylk m_X11_two.2.2.2.2.1 101 = some (.iastore) := by decide +kernel
theorem cd_X11_two_102 : ylk m_X11_two.2.2.2.2.1 102 = some (.aload_n 0) := by decide +kernel
theorem cd_X11_two_103 : ylk m_X11_two.2.2.2.2.1 103 = some (.getfield 16) := by decide +kernel
theorem cd_X11_two_106 : ylk m_X11_two.2.2.2.2.1 106 = some (.getfield 99) := by decide +kernel
theorem cd_X11_two_109 : ylk m_X11_two.2.2.2.2.1 109 = some (.iload 4) := by decide +kernel
theorem cd_X11_two_111 : ylk m_X11_two.2.2.2.2.1 111 = some (.aload_n 0) := by decide +kernel
theorem cd_X11_two_112 : ylk m_X11_two.2.2.2.2.1 112 = some (.iload 4) := by decide +kernel
theorem cd_X11_two_114 : ylk m_X11_two.2.2.2.2.1 114 = some (.iload 5) := by decide +kernel
theorem cd_X11_two_116 : ylk m_X11_two.2.2.2.2.1 116 = some (.iconst 1) := by decide +kernel
theorem cd_X11_two_117 : ylk m_X11_two.2.2.2.2.1 117 = some (.iand) := by decide +kernel
theorem cd_X11_two_118 : ylk m_X11_two.2.2.2.2.1 118 = some (.invokevirtual 304) := by decide +kernel
theorem cd_X11_two_121 : ylk m_X11_two.2.2.2.2.1 121 = some (.iastore) := by decide +kernel
theorem cd_X11_two_122 : ylk m_X11_two.2.2.2.2.1 122 = some (.aload_n 0) := by decide +kernel
theorem cd_X11_two_123 : ylk m_X11_two.2.2.2.2.1 123 = some (.getfield 16) := by decide +kernel
theorem cd_X11_two_126 : ylk m_X11_two.2.2.2.2.1 126 = some (.iload_n 1) := by decide +kernel
theorem cd_X11_two_127 : ylk m_X11_two.2.2.2.2.1 127 = some (.invokevirtual 81) := by decide +kernel
theorem cd_X11_two_130 : ylk m_X11_two.2.2.2.2.1 130 = some (.istore 6) := by decide +kernel
theorem cd_X11_two_132 : ylk m_X11_two.2.2.2.2.1 132 = some (.aload_n 0) := by decide +kernel
theorem cd_X11_two_133 : ylk m_X11_two.2.2.2.2.1 133 = some (.getfield 16) := by decide +kernel
theorem cd_X11_two_136 : ylk m_X11_two.2.2.2.2.1 136 = some (.iload_n 2) := by decide +kernel
theorem cd_X11_two_137 : ylk m_X11_two.2.2.2.2.1 137 = some (.invokevirtual 81) := by decide +kernel
theorem cd_X11_two_140 : ylk m_X11_two.2.2.2.2.1 140 = some (.istore 7) := by decide +kernel
theorem cd_X11_two_142 : ylk m_X11_two.2.2.2.2.1 142 = some (.aload_n 0) := by decide +kernel
theorem cd_X11_two_143 : ylk m_X11_two.2.2.2.2.1 143 = some (.getfield 37) := by decide +kernel
theorem cd_X11_two_146 : ylk m_X11_two.2.2.2.2.1 146 = some (.iload 5) := by decide +kernel
theorem cd_X11_two_148 : ylk m_X11_two.2.2.2.2.1 148 = some (.iload 6) := by decide +kernel
theorem cd_X11_two_150 : ylk m_X11_two.2.2.2.2.1 150 = some (.iload 7) := by decide +kernel
theorem cd_X11_two_152 : ylk m_X11_two.2.2.2.2.1 152 = some (.iconst 2) := by decide +kernel
theorem cd_X11_two_153 : ylk m_X11_two.2.2.2.2.1 153 = some (.idiv) := by decide +kernel
theorem cd_X11_two_154 : ylk m_X11_two.2.2.2.2.1 154 = some (.isub) := by decide +kernel
theorem cd_X11_two_155 : ylk m_X11_two.2.2.2.2.1 155 = some (.iastore) := by decide +kernel
theorem cd_X11_two_156 : ylk m_X11_two.2.2.2.2.1 156 = some (.aload_n 0) := by decide +kernel
theorem cd_X11_two_157 : ylk m_X11_two.2.2.2.2.1 157 = some (.getfield 37) := by decide +kernel
theorem cd_X11_two_160 : ylk m_X11_two.2.2.2.2.1 160 = some (.iconst 4) := by decide +kernel
theorem cd_X11_two_161 : ylk m_X11_two.2.2.2.2.1 161 = some (.iload 5) := by decide +kernel
theorem cd_X11_two_163 : ylk m_X11_two.2.2.2.2.1 163 = some (.iadd) := by decide +kernel
theorem cd_X11_two_164 : ylk m_X11_two.2.2.2.2.1 164 = some (.iload 7) := by decide +kernel
theorem cd_X11_two_166 : ylk m_X11_two.2.2.2.2.1 166 = some (.iload 6) := by decide +kernel
theorem cd_X11_two_168 : ylk m_X11_two.2.2.2.2.1 168 = some (.iconst 2) := by decide +kernel
theorem cd_X11_two_169 : ylk m_X11_two.2.2.2.2.1 169 = some (.idiv) := by decide +kernel
theorem cd_X11_two_170 : ylk m_X11_two.2.2.2.2.1 170 = some (.isub) := by decide +kernel
theorem cd_X11_two_171 : ylk m_X11_two.2.2.2.2.1 171 = some (.iastore) := by decide +kernel
theorem cd_X11_two_172 : ylk m_X11_two.2.2.2.2.1 172 = some (.iinc 5 1) := by decide +kernel
theorem cd_X11_two_175 : ylk m_X11_two.2.2.2.2.1 175 = some (.goto (-97)) := by decide +kernel
theorem cd_X11_two_178 : ylk m_X11_two.2.2.2.2.1 178 = some (.iconst 0) := by decide +kernel
theorem cd_X11_two_179 : ylk m_X11_two.2.2.2.2.1 179 = some (.istore 5) := by decide +kernel
theorem cd_X11_two_181 : ylk m_X11_two.2.2.2.2.1 181 = some (.iload 5) := by decide +kernel
theorem cd_X11_two_183 : ylk m_X11_two.2.2.2.2.1 183 = some (.iconst 4) := by decide +kernel
theorem cd_X11_two_184 : ylk m_X11_two.2.2.2.2.1 184 = some (.if_icmp .ge 64) := by decide +kernel
theorem cd_X11_two_187 : ylk m_X11_two.2.2.2.2.1 187 = some (.aload_n 0) := by decide +kernel
theorem cd_X11_two_188 : ylk m_X11_two.2.2.2.2.1 188 = some (.getfield 37) := by decide +kernel
theorem cd_X11_two_191 : ylk m_X11_two.2.2.2.2.1 191 = some (.iload 5) := by decide +kernel
theorem cd_X11_two_193 : ylk m_X11_two.2.2.2.2.1 193 = some (.iconst 2) := by decide +kernel
theorem cd_X11_two_194 : ylk m_X11_two.2.2.2.2.1 194 = some (.ixor) := by decide +kernel
theorem cd_X11_two_195 : ylk m_X11_two.2.2.2.2.1 195 = some (.iaload) := by decide +kernel
theorem cd_X11_two_196 : ylk m_X11_two.2.2.2.2.1 196 = some (.aload_n 0) := by decide +kernel
theorem cd_X11_two_197 : ylk m_X11_two.2.2.2.2.1 197 = some (.getfield 37) := by decide +kernel
theorem cd_X11_two_200 : ylk m_X11_two.2.2.2.2.1 200 = some (.iload 5) := by decide +kernel
theorem cd_X11_two_202 : ylk m_X11_two.2.2.2.2.1 202 = some (.iaload) := by decide +kernel
theorem cd_X11_two_203 : ylk m_X11_two.2.2.2.2.1 203 = some (.if_icmp .gt 39) := by decide +kernel
theorem cd_X11_two_206 : ylk m_X11_two.2.2.2.2.1 206 = some (.aload_n 0) := by decide +kernel
theorem cd_X11_two_207 : ylk m_X11_two.2.2.2.2.1 207 = some (.getfield 37) := by decide +kernel
theorem cd_X11_two_210 : ylk m_X11_two.2.2.2.2.1 210 = some (.iconst 4) := by decide +kernel
theorem cd_X11_two_211 : ylk m_X11_two.2.2.2.2.1 211 = some (.iload 5) := by decide +kernel
theorem cd_X11_two_213 : ylk m_X11_two.2.2.2.2.1 213 = some (.iconst 1) := by decide +kernel
theorem cd_X11_two_214 : ylk m_X11_two.2.2.2.2.1 214 = some (.ixor) := by decide +kernel
theorem cd_X11_two_215 : ylk m_X11_two.2.2.2.2.1 215 = some (.iadd) := by decide +kernel
theorem cd_X11_two_216 : ylk m_X11_two.2.2.2.2.1 216 = some (.iaload) := by decide +kernel
theorem cd_X11_two_217 : ylk m_X11_two.2.2.2.2.1 217 = some (.aload_n 0) := by decide +kernel
theorem cd_X11_two_218 : ylk m_X11_two.2.2.2.2.1 218 = some (.getfield 37) := by decide +kernel
theorem cd_X11_two_221 : ylk m_X11_two.2.2.2.2.1 221 = some (.iconst 4) := by decide +kernel
theorem cd_X11_two_222 : ylk m_X11_two.2.2.2.2.1 222 = some (.iload 5) := by decide +kernel
theorem cd_X11_two_224 : ylk m_X11_two.2.2.2.2.1 224 = some (.iadd) := by decide +kernel
theorem cd_X11_two_225 : ylk m_X11_two.2.2.2.2.1 225 = some (.iaload) := by decide +kernel
theorem cd_X11_two_226 : ylk m_X11_two.2.2.2.2.1 226 = some (.if_icmp .gt 16) := by decide +kernel
theorem cd_X11_two_229 : ylk m_X11_two.2.2.2.2.1 229 = some (.bipush 10) := by decide +kernel
theorem cd_X11_two_231 : ylk m_X11_two.2.2.2.2.1 231 = some (.iload 5) := by decide +kernel
theorem cd_X11_two_233 : ylk m_X11_two.2.2.2.2.1 233 = some (.iconst 1) := by decide +kernel
theorem cd_X11_two_234 : ylk m_X11_two.2.2.2.2.1 234 = some (.ishr) := by decide +kernel
theorem cd_X11_two_235 : ylk m_X11_two.2.2.2.2.1 235 = some (.imul) := by decide +kernel
theorem cd_X11_two_236 : ylk m_X11_two.2.2.2.2.1 236 = some (.iload 5) := by decide +kernel
theorem cd_X11_two_238 : ylk m_X11_two.2.2.2.2.1 238 = some (.iconst 1) := by decide +kernel
theorem cd_X11_two_239 : ylk m_X11_two.2.2.2.2.1 239 = some (.iand) := by decide +kernel
theorem cd_X11_two_240 : ylk m_X11_two.2.2.2.2.1 240 = some (.iadd) := by decide +kernel
theorem cd_X11_two_241 : ylk m_X11_two.2.2.2.2.1 241 = some (.ireturn) := by decide +kernel
theorem cd_X11_two_242 : ylk m_X11_two.2.2.2.2.1 242 = some (.iinc 5 1) := by decide +kernel
theorem cd_X11_two_245 : ylk m_X11_two.2.2.2.2.1 245 = some (.goto (-64)) := by decide +kernel
theorem cd_X11_two_248 : ylk m_X11_two.2.2.2.2.1 248 = some (.bipush (-4)) := by decide +kernel
theorem cd_X11_two_250 : ylk m_X11_two.2.2.2.2.1 250 = some (.ireturn) := by decide +kernel
noncomputable abbrev yb_X11_two (C : yC) : ySt → Option (Option Value × yM) := yrn m_X11_two C
theorem en_X11_two (n : Nat) (A : yM) (v0 : Nat) (v1 : Int32) (v2 : Int32) : ycall (n + 1) 116 [.ref v0, .int v1, .int v2] A = (yi (yvt [(10, 91)] (ycall n) [.ref v0, .int v1, .int v2] A)).bind (fun z1 => if z1.1 = 0 then (some (some (.int (-1 : Int32)), z1.2)) else (ygR z1.2 v0 10 0 (fun a2 => (yi (yvt [(0, 24)] (ycall n) [.ref a2, .int v1] z1.2)).bind (fun z3 => ygR z3.2 v0 10 0 (fun a4 => (yi (yvt [(0, 24)] (ycall n) [.ref a4, .int v2] z3.2)).bind (fun z5 => ygR z5.2 v0 10 0 (fun a6 => (yi (yvt [(0, 3)] (ycall n) [.ref a6, .int v1] z5.2)).bind (fun z7 => if z7.1 = 0 then (some (some (.int (-3 : Int32)), z7.2)) else (ygR z7.2 v0 10 0 (fun a8 => (yi (yvt [(0, 3)] (ycall n) [.ref a8, .int v2] z7.2)).bind (fun z9 => if z9.1 = 0 then (some (some (.int (-3 : Int32)), z9.2)) else (if z3.1 < 0 then (some (some (.int (-3 : Int32)), z9.2)) else (if 0 ≤ z5.1 then (ygR z9.2 v0 10 1 (fun a10 => ygR z9.2 v0 10 0 (fun a11 => (yv (yvt [(0, 0)] (ycall n) [.ref a10, .ref a11] z9.2)).bind (fun A12 => yb_X11_two (ycall n) (78, [some (.ref v0), some (.int v1), some (.int v2), some (.int z3.1), some (.int z5.1), some (.int (0 : Int32)), none, none], [], A12))))) else (some (some (.int (-3 : Int32)), z9.2))))))))))))))) := (ybig_blk 37 _).trans (z_aload_n cd_X11_two_0 (j := 0) rfl rfl (p := 1) rfl (zgo rfl (z_iload_n cd_X11_two_1 (j := 1) rfl rfl (p := 2) rfl (zgo rfl (z_iload_n cd_X11_two_2 (j := 2) rfl rfl (p := 3) rfl (zgo rfl (z_cv1 cd_X11_two_3 (zv (key := 519) (by decide)) cl_X11_c519 rfl rfl rfl rfl (p := 6) rfl (fun _ => (zgo rfl (z_if_ne cd_X11_two_6 (p := 11) rfl (p2 := 9) rfl (zgo rfl (z_iconst cd_X11_two_9 ki_m1 (p := 10) rfl (zgo rfl (z_iret cd_X11_two_10 rfl)))) (zgo rfl (z_aload_n cd_X11_two_11 (j := 0) rfl rfl (p := 12) rfl (zgo rfl (z_getR cd_X11_two_12 fd_X11_12 (p := 15) rfl (fun _ => (zgo rfl (z_iload_n cd_X11_two_15 (j := 1) rfl rfl (p := 16) rfl (zgo rfl (z_cv1 cd_X11_two_16 (zv (key := 903) (by decide)) cl_X11_c903 rfl rfl rfl rfl (p := 19) rfl (fun _ => (zgo rfl (z_istore_n cd_X11_two_19 (j := 3) rfl rfl (p := 20) rfl (zgo rfl (z_aload_n cd_X11_two_20 (j := 0) rfl rfl (p := 21) rfl (zgo rfl (z_getR cd_X11_two_21 fd_X11_12 (p := 24) rfl (fun _ => (zgo rfl (z_iload_n cd_X11_two_24 (j := 2) rfl rfl (p := 25) rfl (zgo rfl (z_cv1 cd_X11_two_25 (zv (key := 903) (by decide)) cl_X11_c903 rfl rfl rfl rfl (p := 28) rfl (fun _ => (zgo rfl (z_istore cd_X11_two_28 rfl (p := 30) rfl (zgo rfl (z_aload_n cd_X11_two_30 (j := 0) rfl rfl (p := 31) rfl (zgo rfl (z_getR cd_X11_two_31 fd_X11_12 (p := 34) rfl (fun _ => (zgo rfl (z_iload_n cd_X11_two_34 (j := 1) rfl rfl (p := 35) rfl (zgo rfl (z_cv1 cd_X11_two_35 (zv (key := 234) (by decide)) cl_X11_c234 rfl rfl rfl rfl (p := 38) rfl (fun _ => (zgo rfl (z_if_eq cd_X11_two_38 (p := 61) rfl (p2 := 41) rfl (zgo rfl (z_bipush cd_X11_two_61 kb_m3 (p := 63) rfl (zgo rfl (z_iret cd_X11_two_63 rfl)))) (zgo rfl (z_aload_n cd_X11_two_41 (j := 0) rfl rfl (p := 42) rfl (zgo rfl (z_getR cd_X11_two_42 fd_X11_12 (p := 45) rfl (fun _ => (zgo rfl (z_iload_n cd_X11_two_45 (j := 2) rfl rfl (p := 46) rfl (zgo rfl (z_cv1 cd_X11_two_46 (zv (key := 234) (by decide)) cl_X11_c234 rfl rfl rfl rfl (p := 49) rfl (fun _ => (zgo rfl (z_if_eq cd_X11_two_49 (p := 61) rfl (p2 := 52) rfl (zgo rfl (z_bipush cd_X11_two_61 kb_m3 (p := 63) rfl (zgo rfl (z_iret cd_X11_two_63 rfl)))) (zgo rfl (z_iload_n cd_X11_two_52 (j := 3) rfl rfl (p := 53) rfl (zgo rfl (z_if_lt cd_X11_two_53 (p := 61) rfl (p2 := 56) rfl (zgo rfl (z_bipush cd_X11_two_61 kb_m3 (p := 63) rfl (zgo rfl (z_iret cd_X11_two_63 rfl)))) (zgo rfl (z_iload cd_X11_two_56 rfl (p := 58) rfl (zgo rfl (z_if_ge cd_X11_two_58 (p := 64) rfl (p2 := 61) rfl (zgo rfl (z_aload_n cd_X11_two_64 (j := 0) rfl rfl (p := 65) rfl (zgo rfl (z_getR cd_X11_two_65 fd_X11_16 (p := 68) rfl (fun _ => (zgo rfl (z_aload_n cd_X11_two_68 (j := 0) rfl rfl (p := 69) rfl (zgo rfl (z_getR cd_X11_two_69 fd_X11_12 (p := 72) rfl (fun _ => (zgo rfl (z_cv0 cd_X11_two_72 (zv (key := 171) (by decide)) cl_X11_c171 rfl rfl rfl rfl (p := 75) rfl (fun _ => (zgo rfl (z_iconst cd_X11_two_75 ki_0 (p := 76) rfl (zgo rfl (z_istore cd_X11_two_76 rfl (p := 78) rfl (zcut (p := 78) rfl rfl)))))))))))))))))) (zgo rfl (z_bipush cd_X11_two_61 kb_m3 (p := 63) rfl (zgo rfl (z_iret cd_X11_two_63 rfl))))))))))))))))))))))))))))))))))))))))))))))))))))))))))))))))))))))
theorem bk_X11_two_78 (C : yC) (A : yM) (v0 : Nat) (v1 : Int32) (v2 : Int32) (v3 : Int32) (v4 : Int32) (v5 : Int32) : yb_X11_two C (78, [some (.ref v0), some (.int v1), some (.int v2), some (.int v3), some (.int v4), some (.int v5), none, none], [], A) = if (4 : Int32) ≤ v5 then (yb_X11_two C (181, [some (.ref v0), none, none, none, none, some (.int (0 : Int32)), none, none], [], A)) else (ygR A v0 10 1 (fun a1 => ygR A a1 0 8 (fun a2 => (yi (yvt [(10, 117)] C [.ref v0, .int v3, .int (v5 >>> ((1 : Int32) &&& 31))] A)).bind (fun z3 => ywr z3.2 a2 v3 z3.1 (fun A4 => ygR A4 v0 10 1 (fun a5 => ygR A4 a5 0 8 (fun a6 => (yi (yvt [(10, 117)] C [.ref v0, .int v4, .int (v5 &&& (1 : Int32))] A4)).bind (fun z7 => ywr z7.2 a6 v4 z7.1 (fun A8 => ygR A8 v0 10 1 (fun a9 => (yi (yvt [(0, 16)] C [.ref a9, .int v1] A8)).bind (fun z10 => ygR z10.2 v0 10 1 (fun a11 => (yi (yvt [(0, 16)] C [.ref a11, .int v2] z10.2)).bind (fun z12 => ygR z12.2 v0 10 6 (fun a13 => if (2 : Int32) = 0 then none else (ywr z12.2 a13 v5 (z10.1 - (z12.1 / (2 : Int32))) (fun A14 => ygR A14 v0 10 6 (fun a15 => if (2 : Int32) = 0 then none else (ywr A14 a15 ((4 : Int32) + v5) (z12.1 - (z10.1 / (2 : Int32))) (fun A16 => yb_X11_two C (78, [some (.ref v0), some (.int v1), some (.int v2), some (.int v3), some (.int v4), some (.int (v5 + (1 : Int32))), none, none], [], A16)))))))))))))))))))) := (ybig_blk 58 _).trans (z_iload cd_X11_two_78 rfl (p := 80) rfl (zgo rfl (z_iconst cd_X11_two_80 ki_4 (p := 81) rfl (zgo rfl (z_ic_ge cd_X11_two_81 (p := 178) rfl (p2 := 84) rfl (zgo rfl (z_iconst cd_X11_two_178 ki_0 (p := 179) rfl (zgo rfl (z_istore cd_X11_two_179 rfl (p := 181) rfl (zcut (p := 181) rfl rfl))))) (zgo rfl (z_aload_n cd_X11_two_84 (j := 0) rfl rfl (p := 85) rfl (zgo rfl (z_getR cd_X11_two_85 fd_X11_16 (p := 88) rfl (fun _ => (zgo rfl (z_getR cd_X11_two_88 fd_X11_99 (p := 91) rfl (fun _ => (zgo rfl (z_iload_n cd_X11_two_91 (j := 3) rfl rfl (p := 92) rfl (zgo rfl (z_aload_n cd_X11_two_92 (j := 0) rfl rfl (p := 93) rfl (zgo rfl (z_iload_n cd_X11_two_93 (j := 3) rfl rfl (p := 94) rfl (zgo rfl (z_iload cd_X11_two_94 rfl (p := 96) rfl (zgo rfl (z_iconst cd_X11_two_96 ki_1 (p := 97) rfl (zgo rfl (z_ishr cd_X11_two_97 (p := 98) rfl (zgo rfl (z_cv1 cd_X11_two_98 (zv (key := 912) (by decide)) cl_X11_c912 rfl rfl rfl rfl (p := 101) rfl (fun _ => (zgo rfl (z_iastore cd_X11_two_101 (p := 102) rfl (fun _ => (zgo rfl (z_aload_n cd_X11_two_102 (j := 0) rfl rfl (p := 103) rfl (zgo rfl (z_getR cd_X11_two_103 fd_X11_16 (p := 106) rfl (fun _ => (zgo rfl (z_getR cd_X11_two_106 fd_X11_99 (p := 109) rfl (fun _ => (zgo rfl (z_iload cd_X11_two_109 rfl (p := 111) rfl (zgo rfl (z_aload_n cd_X11_two_111 (j := 0) rfl rfl (p := 112) rfl (zgo rfl (z_iload cd_X11_two_112 rfl (p := 114) rfl (zgo rfl (z_iload cd_X11_two_114 rfl (p := 116) rfl (zgo rfl (z_iconst cd_X11_two_116 ki_1 (p := 117) rfl (zgo rfl (z_iand cd_X11_two_117 (p := 118) rfl (zgo rfl (z_cv1 cd_X11_two_118 (zv (key := 912) (by decide)) cl_X11_c912 rfl rfl rfl rfl (p := 121) rfl (fun _ => (zgo rfl (z_iastore cd_X11_two_121 (p := 122) rfl (fun _ => (zgo rfl (z_aload_n cd_X11_two_122 (j := 0) rfl rfl (p := 123) rfl (zgo rfl (z_getR cd_X11_two_123 fd_X11_16 (p := 126) rfl (fun _ => (zgo rfl (z_iload_n cd_X11_two_126 (j := 1) rfl rfl (p := 127) rfl (zgo rfl (z_cv1 cd_X11_two_127 (zv (key := 243) (by decide)) cl_X11_c243 rfl rfl rfl rfl (p := 130) rfl (fun _ => (zgo rfl (z_istore cd_X11_two_130 rfl (p := 132) rfl (zgo rfl (z_aload_n cd_X11_two_132 (j := 0) rfl rfl (p := 133) rfl (zgo rfl (z_getR cd_X11_two_133 fd_X11_16 (p := 136) rfl (fun _ => (zgo rfl (z_iload_n cd_X11_two_136 (j := 2) rfl rfl (p := 137) rfl (zgo rfl (z_cv1 cd_X11_two_137 (zv (key := 243) (by decide)) cl_X11_c243 rfl rfl rfl rfl (p := 140) rfl (fun _ => (zgo rfl (z_istore cd_X11_two_140 rfl (p := 142) rfl (zgo rfl (z_aload_n cd_X11_two_142 (j := 0) rfl rfl (p := 143) rfl (zgo rfl (z_getR cd_X11_two_143 fd_X11_37 (p := 146) rfl (fun _ => (zgo rfl (z_iload cd_X11_two_146 rfl (p := 148) rfl (zgo rfl (z_iload cd_X11_two_148 rfl (p := 150) rfl (zgo rfl (z_iload cd_X11_two_150 rfl (p := 152) rfl (zgo rfl (z_iconst cd_X11_two_152 ki_2 (p := 153) rfl (zgo rfl (z_idiv cd_X11_two_153 (p := 154) rfl (zgo rfl (z_isub cd_X11_two_154 (p := 155) rfl (zgo rfl (z_iastore cd_X11_two_155 (p := 156) rfl (fun _ => (zgo rfl (z_aload_n cd_X11_two_156 (j := 0) rfl rfl (p := 157) rfl (zgo rfl (z_getR cd_X11_two_157 fd_X11_37 (p := 160) rfl (fun _ => (zgo rfl (z_iconst cd_X11_two_160 ki_4 (p := 161) rfl (zgo rfl (z_iload cd_X11_two_161 rfl (p := 163) rfl (zgo rfl (z_iadd cd_X11_two_163 (p := 164) rfl (zgo rfl (z_iload cd_X11_two_164 rfl (p := 166) rfl (zgo rfl (z_iload cd_X11_two_166 rfl (p := 168) rfl (zgo rfl (z_iconst cd_X11_two_168 ki_2 (p := 169) rfl (zgo rfl (z_idiv cd_X11_two_169 (p := 170) rfl (zgo rfl (z_isub cd_X11_two_170 (p := 171) rfl (zgo rfl (z_iastore cd_X11_two_171 (p := 172) rfl (fun _ => (zgo rfl (z_iinc cd_X11_two_172 ki_1 rfl rfl (p := 175) rfl (zgo rfl (z_goto cd_X11_two_175 (p := 78) rfl (zcut (p := 78) rfl rfl))))))))))))))))))))))))))))))))))))))))))))))))))))))))))))))))))))))))))))))))))))))))))))))))))))))))))))))))))))))))))))))))))
theorem bk_X11_two_181 (C : yC) (A : yM) (v0 : Nat) (v5 : Int32) : yb_X11_two C (181, [some (.ref v0), none, none, none, none, some (.int v5), none, none], [], A) = if (4 : Int32) ≤ v5 then (some (some (.int (-4 : Int32)), A)) else (ygR A v0 10 6 (fun a1 => yrd A a1 (v5 ^^^ (2 : Int32)) (fun x2 => ygR A v0 10 6 (fun a3 => yrd A a3 v5 (fun x4 => if x4 < x2 then (yb_X11_two C (181, [some (.ref v0), none, none, none, none, some (.int (v5 + (1 : Int32))), none, none], [], A)) else (ygR A v0 10 6 (fun a5 => yrd A a5 ((4 : Int32) + (v5 ^^^ (1 : Int32))) (fun x6 => ygR A v0 10 6 (fun a7 => yrd A a7 ((4 : Int32) + v5) (fun x8 => if x8 < x6 then (yb_X11_two C (181, [some (.ref v0), none, none, none, none, some (.int (v5 + (1 : Int32))), none, none], [], A)) else (some (some (.int (((10 : Int32) * (v5 >>> ((1 : Int32) &&& 31))) + (v5 &&& (1 : Int32)))), A)))))))))))) := (ybig_blk 40 _).trans (z_iload cd_X11_two_181 rfl (p := 183) rfl (zgo rfl (z_iconst cd_X11_two_183 ki_4 (p := 184) rfl (zgo rfl (z_ic_ge cd_X11_two_184 (p := 248) rfl (p2 := 187) rfl (zgo rfl (z_bipush cd_X11_two_248 kb_m4 (p := 250) rfl (zgo rfl (z_iret cd_X11_two_250 rfl)))) (zgo rfl (z_aload_n cd_X11_two_187 (j := 0) rfl rfl (p := 188) rfl (zgo rfl (z_getR cd_X11_two_188 fd_X11_37 (p := 191) rfl (fun _ => (zgo rfl (z_iload cd_X11_two_191 rfl (p := 193) rfl (zgo rfl (z_iconst cd_X11_two_193 ki_2 (p := 194) rfl (zgo rfl (z_ixor cd_X11_two_194 (p := 195) rfl (zgo rfl (z_iaload cd_X11_two_195 (p := 196) rfl (fun _ => (zgo rfl (z_aload_n cd_X11_two_196 (j := 0) rfl rfl (p := 197) rfl (zgo rfl (z_getR cd_X11_two_197 fd_X11_37 (p := 200) rfl (fun _ => (zgo rfl (z_iload cd_X11_two_200 rfl (p := 202) rfl (zgo rfl (z_iaload cd_X11_two_202 (p := 203) rfl (fun _ => (zgo rfl (z_ic_gt cd_X11_two_203 (p := 242) rfl (p2 := 206) rfl (zgo rfl (z_iinc cd_X11_two_242 ki_1 rfl rfl (p := 245) rfl (zgo rfl (z_goto cd_X11_two_245 (p := 181) rfl (zcut (p := 181) rfl rfl))))) (zgo rfl (z_aload_n cd_X11_two_206 (j := 0) rfl rfl (p := 207) rfl (zgo rfl (z_getR cd_X11_two_207 fd_X11_37 (p := 210) rfl (fun _ => (zgo rfl (z_iconst cd_X11_two_210 ki_4 (p := 211) rfl (zgo rfl (z_iload cd_X11_two_211 rfl (p := 213) rfl (zgo rfl (z_iconst cd_X11_two_213 ki_1 (p := 214) rfl (zgo rfl (z_ixor cd_X11_two_214 (p := 215) rfl (zgo rfl (z_iadd cd_X11_two_215 (p := 216) rfl (zgo rfl (z_iaload cd_X11_two_216 (p := 217) rfl (fun _ => (zgo rfl (z_aload_n cd_X11_two_217 (j := 0) rfl rfl (p := 218) rfl (zgo rfl (z_getR cd_X11_two_218 fd_X11_37 (p := 221) rfl (fun _ => (zgo rfl (z_iconst cd_X11_two_221 ki_4 (p := 222) rfl (zgo rfl (z_iload cd_X11_two_222 rfl (p := 224) rfl (zgo rfl (z_iadd cd_X11_two_224 (p := 225) rfl (zgo rfl (z_iaload cd_X11_two_225 (p := 226) rfl (fun _ => (zgo rfl (z_ic_gt cd_X11_two_226 (p := 242) rfl (p2 := 229) rfl (zgo rfl (z_iinc cd_X11_two_242 ki_1 rfl rfl (p := 245) rfl (zgo rfl (z_goto cd_X11_two_245 (p := 181) rfl (zcut (p := 181) rfl rfl))))) (zgo rfl (z_bipush cd_X11_two_229 kb_10 (p := 231) rfl (zgo rfl (z_iload cd_X11_two_231 rfl (p := 233) rfl (zgo rfl (z_iconst cd_X11_two_233 ki_1 (p := 234) rfl (zgo rfl (z_ishr cd_X11_two_234 (p := 235) rfl (zgo rfl (z_imul cd_X11_two_235 (p := 236) rfl (zgo rfl (z_iload cd_X11_two_236 rfl (p := 238) rfl (zgo rfl (z_iconst cd_X11_two_238 ki_1 (p := 239) rfl (zgo rfl (z_iand cd_X11_two_239 (p := 240) rfl (zgo rfl (z_iadd cd_X11_two_240 (p := 241) rfl (zgo rfl (z_iret cd_X11_two_241 rfl)))))))))))))))))))))))))))))))))))))))))))))))))))))))))))))))))))))))))))))))))))))
theorem cd_X11_standsOrHalf_0 : ylk m_X11_standsOrHalf.2.2.2.2.1 0 = some (.iload_n 2) := by decide +kernel
theorem cd_X11_standsOrHalf_1 : ylk m_X11_standsOrHalf.2.2.2.2.1 1 = some (.iconst 1) := by decide +kernel
theorem cd_X11_standsOrHalf_2 : ylk m_X11_standsOrHalf.2.2.2.2.1 2 = some (.if_icmp .ne 15) := by decide +kernel
theorem cd_X11_standsOrHalf_5 : ylk m_X11_standsOrHalf.2.2.2.2.1 5 = some (.aload_n 0) := by decide +kernel
theorem cd_X11_standsOrHalf_6 : ylk m_X11_standsOrHalf.2.2.2.2.1 6 = some (.getfield 12) := by decide +kernel
theorem cd_X11_standsOrHalf_9 : ylk m_X11_standsOrHalf.2.2.2.2.1 9 = some (.getfield 99) := by decide +kernel
theorem cd_X11_standsOrHalf_12 : ylk m_X11_standsOrHalf.2.2.2.2.1 12 = some (.iload_n 1) := by decide +kernel
theorem cd_X11_standsOrHalf_13 : ylk m_X11_standsOrHalf.2.2.2.2.1 13 = some (.iaload) := by decide +kernel
theorem cd_X11_standsOrHalf_14 : ylk m_X11_standsOrHalf.2.2.2.2.1 14 = some (.goto 14) := by decide +kernel
theorem cd_X11_standsOrHalf_17 : ylk m_X11_standsOrHalf.2.2.2.2.1 17 = some (.aload_n 0) := by decide +kernel
theorem cd_X11_standsOrHalf_18 : ylk m_X11_standsOrHalf.2.2.2.2.1 18 = some (.getfield 12) := by decide +kernel
theorem cd_X11_standsOrHalf_21 : ylk m_X11_standsOrHalf.2.2.2.2.1 21 = some (.getfield 99) := by decide +kernel
theorem cd_X11_standsOrHalf_24 : ylk m_X11_standsOrHalf.2.2.2.2.1 24 = some (.iload_n 1) := by decide +kernel
theorem cd_X11_standsOrHalf_25 : ylk m_X11_standsOrHalf.2.2.2.2.1 25 = some (.iaload) := by decide +kernel
theorem cd_X11_standsOrHalf_26 : ylk m_X11_standsOrHalf.2.2.2.2.1 26 = some (.iconst 2) := by decide +kernel
theorem cd_X11_standsOrHalf_27 : ylk m_X11_standsOrHalf.2.2.2.2.1 27 = some (.idiv) := by decide +kernel
theorem cd_X11_standsOrHalf_28 : ylk m_X11_standsOrHalf.2.2.2.2.1 28 = some (.ireturn) := by decide +kernel
noncomputable abbrev yb_X11_standsOrHalf (C : yC) : ySt → Option (Option Value × yM) := yrn m_X11_standsOrHalf C
theorem en_X11_standsOrHalf (n : Nat) (A : yM) (v0 : Nat) (v1 : Int32) (v2 : Int32) : ycall (n + 1) 117 [.ref v0, .int v1, .int v2] A = if v2 = (1 : Int32) then (ygR A v0 10 0 (fun a4 => ygR A a4 0 8 (fun a5 => yrd A a5 v1 (fun x6 => some (some (.int x6), A))))) else (ygR A v0 10 0 (fun a1 => ygR A a1 0 8 (fun a2 => yrd A a2 v1 (fun x3 => if (2 : Int32) = 0 then none else (some (some (.int (x3 / (2 : Int32))), A)))))) := (ybig_blk 12 _).trans (z_iload_n cd_X11_standsOrHalf_0 (j := 2) rfl rfl (p := 1) rfl (zgo rfl (z_iconst cd_X11_standsOrHalf_1 ki_1 (p := 2) rfl (zgo rfl (z_ic_ne cd_X11_standsOrHalf_2 (p := 17) rfl (p2 := 5) rfl (zgo rfl (z_aload_n cd_X11_standsOrHalf_5 (j := 0) rfl rfl (p := 6) rfl (zgo rfl (z_getR cd_X11_standsOrHalf_6 fd_X11_12 (p := 9) rfl (fun _ => (zgo rfl (z_getR cd_X11_standsOrHalf_9 fd_X11_99 (p := 12) rfl (fun _ => (zgo rfl (z_iload_n cd_X11_standsOrHalf_12 (j := 1) rfl rfl (p := 13) rfl (zgo rfl (z_iaload cd_X11_standsOrHalf_13 (p := 14) rfl (fun _ => (zgo rfl (z_goto cd_X11_standsOrHalf_14 (p := 28) rfl (zgo rfl (z_iret cd_X11_standsOrHalf_28 rfl))))))))))))))))) (zgo rfl (z_aload_n cd_X11_standsOrHalf_17 (j := 0) rfl rfl (p := 18) rfl (zgo rfl (z_getR cd_X11_standsOrHalf_18 fd_X11_12 (p := 21) rfl (fun _ => (zgo rfl (z_getR cd_X11_standsOrHalf_21 fd_X11_99 (p := 24) rfl (fun _ => (zgo rfl (z_iload_n cd_X11_standsOrHalf_24 (j := 1) rfl rfl (p := 25) rfl (zgo rfl (z_iaload cd_X11_standsOrHalf_25 (p := 26) rfl (fun _ => (zgo rfl (z_iconst cd_X11_standsOrHalf_26 ki_2 (p := 27) rfl (zgo rfl (z_idiv cd_X11_standsOrHalf_27 (p := 28) rfl (zgo rfl (z_iret cd_X11_standsOrHalf_28 rfl))))))))))))))))))))))))
theorem cd_X11_odds_0 : ylk m_X11_odds.2.2.2.2.1 0 = some (.aload_n 0) := by decide +kernel
theorem cd_X11_odds_1 : ylk m_X11_odds.2.2.2.2.1 1 = some (.getfield 12) := by decide +kernel
theorem cd_X11_odds_4 : ylk m_X11_odds.2.2.2.2.1 4 = some (.iload_n 1) := by decide +kernel
theorem cd_X11_odds_5 : ylk m_X11_odds.2.2.2.2.1 5 = some (.invokevirtual 68) := by decide +kernel
theorem cd_X11_odds_8 : ylk m_X11_odds.2.2.2.2.1 8 = some (.ifCond .eq 33) := by decide +kernel
theorem cd_X11_odds_11 : ylk m_X11_odds.2.2.2.2.1 11 = some (.iload_n 2) := by decide +kernel
theorem cd_X11_odds_12 : ylk m_X11_odds.2.2.2.2.1 12 = some (.ifCond .lt 29) := by decide +kernel
theorem cd_X11_odds_15 : ylk m_X11_odds.2.2.2.2.1 15 = some (.iload_n 2) := by decide +kernel
theorem cd_X11_odds_16 : ylk m_X11_odds.2.2.2.2.1 16 = some (.sipush 999) := by decide +kernel
theorem cd_X11_odds_19 : ylk m_X11_odds.2.2.2.2.1 19 = some (.if_icmp .gt 22) := by decide +kernel
theorem cd_X11_odds_22 : ylk m_X11_odds.2.2.2.2.1 22 = some (.iload_n 3) := by decide +kernel
theorem cd_X11_odds_23 : ylk m_X11_odds.2.2.2.2.1 23 = some (.iconst 2) := by decide +kernel
theorem cd_X11_odds_24 : ylk m_X11_odds.2.2.2.2.1 24 = some (.if_icmp .lt 17) := by decide +kernel
theorem cd_X11_odds_27 : ylk m_X11_odds.2.2.2.2.1 27 = some (.iload_n 3) := by decide +kernel
theorem cd_X11_odds_28 : ylk m_X11_odds.2.2.2.2.1 28 = some (.bipush 20) := by decide +kernel
theorem cd_X11_odds_30 : ylk m_X11_odds.2.2.2.2.1 30 = some (.if_icmp .gt 11) := by decide +kernel
theorem cd_X11_odds_33 : ylk m_X11_odds.2.2.2.2.1 33 = some (.iload 4) := by decide +kernel
theorem cd_X11_odds_35 : ylk m_X11_odds.2.2.2.2.1 35 = some (.invokestatic 183) := by decide +kernel
theorem cd_X11_odds_38 : ylk m_X11_odds.2.2.2.2.1 38 = some (.ifCond .ne 8) := by decide +kernel
theorem cd_X11_odds_41 : ylk m_X11_odds.2.2.2.2.1 41 = some (.iconst (-1)) := by decide +kernel
theorem cd_X11_odds_42 : ylk m_X11_odds.2.2.2.2.1 42 = some (.invokestatic 186) := by decide +kernel
theorem cd_X11_odds_45 : ylk m_X11_odds.2.2.2.2.1 45 = some (.lreturn) := by decide +kernel
theorem cd_X11_odds_46 : ylk m_X11_odds.2.2.2.2.1 46 = some (.iconst 0) := by decide +kernel
theorem cd_X11_odds_47 : ylk m_X11_odds.2.2.2.2.1 47 = some (.istore 5) := by decide +kernel
theorem cd_X11_odds_49 : ylk m_X11_odds.2.2.2.2.1 49 = some (.iconst 0) := by decide +kernel
theorem cd_X11_odds_50 : ylk m_X11_odds.2.2.2.2.1 50 = some (.istore 6) := by decide +kernel
theorem cd_X11_odds_52 : ylk m_X11_odds.2.2.2.2.1 52 = some (.iload 6) := by decide +kernel
theorem cd_X11_odds_54 : ylk m_X11_odds.2.2.2.2.1 54 = some (.aload_n 0) := by decide +kernel
theorem cd_X11_odds_55 : ylk m_X11_odds.2.2.2.2.1 55 = some (.getfield 12) := by decide +kernel
theorem cd_X11_odds_58 : ylk m_X11_odds.2.2.2.2.1 58 = some (.getfield 158) := by decide +kernel
theorem cd_X11_odds_61 : ylk m_X11_odds.2.2.2.2.1 61 = some (.if_icmp .ge 63) := by decide +kernel
theorem cd_X11_odds_64 : ylk m_X11_odds.2.2.2.2.1 64 = some (.aload_n 0) := by decide +kernel
theorem cd_X11_odds_65 : ylk m_X11_odds.2.2.2.2.1 65 = some (.getfield 12) := by decide +kernel
theorem cd_X11_odds_68 : ylk m_X11_odds.2.2.2.2.1 68 = some (.getfield 93) := by decide +kernel
theorem cd_X11_odds_71 : ylk m_X11_odds.2.2.2.2.1 71 = some (.iload 6) := by decide +kernel
theorem cd_X11_odds_73 : ylk m_X11_odds.2.2.2.2.1 73 = some (.iaload) := by decide +kernel
theorem cd_X11_odds_74 : ylk m_X11_odds.2.2.2.2.1 74 = some (.iload_n 1) := by decide +kernel
theorem cd_X11_odds_75 : ylk m_X11_odds.2.2.2.2.1 75 = some (.if_icmp .ne 43) := by decide +kernel
theorem cd_X11_odds_78 : ylk m_X11_odds.2.2.2.2.1 78 = some (.aload_n 0) := by decide +kernel
theorem cd_X11_odds_79 : ylk m_X11_odds.2.2.2.2.1 79 = some (.getfield 12) := by decide +kernel
theorem cd_X11_odds_82 : ylk m_X11_odds.2.2.2.2.1 82 = some (.iload 6) := by decide +kernel
theorem cd_X11_odds_84 : ylk m_X11_odds.2.2.2.2.1 84 = some (.invokevirtual 105) := by decide +kernel
theorem cd_X11_odds_87 : ylk m_X11_odds.2.2.2.2.1 87 = some (.ifCond .ne 31) := by decide +kernel
theorem cd_X11_odds_90 : ylk m_X11_odds.2.2.2.2.1 90 = some (.aload_n 0) := by decide +kernel
theorem cd_X11_odds_91 : ylk m_X11_odds.2.2.2.2.1 91 = some (.getfield 33) := by decide +kernel
theorem cd_X11_odds_94 : ylk m_X11_odds.2.2.2.2.1 94 = some (.iload 5) := by decide +kernel
theorem cd_X11_odds_96 : ylk m_X11_odds.2.2.2.2.1 96 = some (.aload_n 0) := by decide +kernel
theorem cd_X11_odds_97 : ylk m_X11_odds.2.2.2.2.1 97 = some (.getfield 12) := by decide +kernel
theorem cd_X11_odds_100 : ylk m_X11_odds.2.2.2.2.1 100 = some (.iload 6) := by decide +kernel
theorem cd_X11_odds_102 : ylk m_X11_odds.2.2.2.2.1 102 = some (.aload_n 0) := by decide +kernel
theorem cd_X11_odds_103 : ylk m_X11_odds.2.2.2.2.1 103 = some (.getfield 12) := by decide +kernel
theorem cd_X11_odds_106 : ylk m_X11_odds.2.2.2.2.1 106 = some (.iload 6) := by decide +kernel
theorem cd_X11_odds_108 : ylk m_X11_odds.2.2.2.2.1 108 = some (.invokevirtual 111) := by decide +kernel
theorem cd_X11_odds_111 : ylk m_X11_odds.2.2.2.2.1 111 = some (.invokevirtual 114) := by decide +kernel
theorem cd_X11_odds_114 : ylk m_X11_odds.2.2.2.2.1 114 = some (.iastore) := by decide +kernel
theorem cd_X11_odds_115 : ylk m_X11_odds.2.2.2.2.1 115 = some (.iinc 5 1) := by decide +kernel
theorem cd_X11_odds_118 : ylk m_X11_odds.2.2.2.2.1 118 = some (.iinc 6 1) := by decide +kernel
theorem cd_X11_odds_121 : ylk m_X11_odds.2.2.2.2.1 121 = some (.goto (-69)) := by decide +kernel
theorem cd_X11_odds_124 : ylk m_X11_odds.2.2.2.2.1 124 = some (.iload_n 2) := by decide +kernel
theorem cd_X11_odds_125 : ylk m_X11_odds.2.2.2.2.1 125 = some (.aload_n 0) := by decide +kernel
theorem cd_X11_odds_126 : ylk m_X11_odds.2.2.2.2.1 126 = some (.getfield 33) := by decide +kernel
theorem cd_X11_odds_129 : ylk m_X11_odds.2.2.2.2.1 129 = some (.iconst 0) := by decide +kernel
theorem cd_X11_odds_130 : ylk m_X11_odds.2.2.2.2.1 130 = some (.iload 5) := by decide +kernel
theorem cd_X11_odds_132 : ylk m_X11_odds.2.2.2.2.1 132 = some (.iload_n 3) := by decide +kernel
theorem cd_X11_odds_133 : ylk m_X11_odds.2.2.2.2.1 133 = some (.invokestatic 307) := by decide +kernel
theorem cd_X11_odds_136 : ylk m_X11_odds.2.2.2.2.1 136 = some (.lstore 6) := by decide +kernel
theorem cd_X11_odds_138 : ylk m_X11_odds.2.2.2.2.1 138 = some (.lload 6) := by decide +kernel
theorem cd_X11_odds_140 : ylk m_X11_odds.2.2.2.2.1 140 = some (.iload_n 3) := by decide +kernel
theorem cd_X11_odds_141 : ylk m_X11_odds.2.2.2.2.1 141 = some (.iload 5) := by decide +kernel
theorem cd_X11_odds_143 : ylk m_X11_odds.2.2.2.2.1 143 = some (.invokestatic 311) := by decide +kernel
theorem cd_X11_odds_146 : ylk m_X11_odds.2.2.2.2.1 146 = some (.iload 4) := by decide +kernel
theorem cd_X11_odds_148 : ylk m_X11_odds.2.2.2.2.1 148 = some (.invokestatic 195) := by decide +kernel
theorem cd_X11_odds_151 : ylk m_X11_odds.2.2.2.2.1 151 = some (.lreturn) := by decide +kernel
noncomputable abbrev yb_X11_odds (C : yC) : ySt → Option (Option Value × yM) := yrn m_X11_odds C
theorem en_X11_odds (n : Nat) (A : yM) (v0 : Nat) (v1 : Int32) (v2 : Int32) (v3 : Int32) (v4 : Int32) : ycall (n + 1) 118 [.ref v0, .int v1, .int v2, .int v3, .int v4] A = ygR A v0 10 0 (fun a1 => (yi (yvt [(0, 1)] (ycall n) [.ref a1, .int v1] A)).bind (fun z2 => if z2.1 = 0 then ((yl ((ycall n) 100 [.int (-1 : Int32)] z2.2)).bind (fun z3 => some (some (.long z3.1), z3.2))) else (if v2 < 0 then ((yl ((ycall n) 100 [.int (-1 : Int32)] z2.2)).bind (fun z4 => some (some (.long z4.1), z4.2))) else (if (999 : Int32) < v2 then ((yl ((ycall n) 100 [.int (-1 : Int32)] z2.2)).bind (fun z5 => some (some (.long z5.1), z5.2))) else (if v3 < (2 : Int32) then ((yl ((ycall n) 100 [.int (-1 : Int32)] z2.2)).bind (fun z6 => some (some (.long z6.1), z6.2))) else (if (20 : Int32) < v3 then ((yl ((ycall n) 100 [.int (-1 : Int32)] z2.2)).bind (fun z7 => some (some (.long z7.1), z7.2))) else ((yi ((ycall n) 99 [.int v4] z2.2)).bind (fun z8 => if z8.1 = 0 then ((yl ((ycall n) 100 [.int (-1 : Int32)] z8.2)).bind (fun z9 => some (some (.long z9.1), z9.2))) else (yb_X11_odds (ycall n) (52, [some (.ref v0), some (.int v1), some (.int v2), some (.int v3), some (.int v4), some (.int (0 : Int32)), some (.int (0 : Int32)), none], [], z8.2)))))))))) := (ybig_blk 24 _).trans (z_aload_n cd_X11_odds_0 (j := 0) rfl rfl (p := 1) rfl (zgo rfl (z_getR cd_X11_odds_1 fd_X11_12 (p := 4) rfl (fun _ => (zgo rfl (z_iload_n cd_X11_odds_4 (j := 1) rfl rfl (p := 5) rfl (zgo rfl (z_cv1 cd_X11_odds_5 (zv (key := 204) (by decide)) cl_X11_c204 rfl rfl rfl rfl (p := 8) rfl (fun _ => (zgo rfl (z_if_eq cd_X11_odds_8 (p := 41) rfl (p2 := 11) rfl (zgo rfl (z_iconst cd_X11_odds_41 ki_m1 (p := 42) rfl (zgo rfl (z_cs2 cd_X11_odds_42 (zs (key := 559) (by decide)) cl_X11_c559 rfl rfl rfl rfl (p := 45) rfl (fun _ => (zgo rfl (z_lret cd_X11_odds_45 rfl))))))) (zgo rfl (z_iload_n cd_X11_odds_11 (j := 2) rfl rfl (p := 12) rfl (zgo rfl (z_if_lt cd_X11_odds_12 (p := 41) rfl (p2 := 15) rfl (zgo rfl (z_iconst cd_X11_odds_41 ki_m1 (p := 42) rfl (zgo rfl (z_cs2 cd_X11_odds_42 (zs (key := 559) (by decide)) cl_X11_c559 rfl rfl rfl rfl (p := 45) rfl (fun _ => (zgo rfl (z_lret cd_X11_odds_45 rfl))))))) (zgo rfl (z_iload_n cd_X11_odds_15 (j := 2) rfl rfl (p := 16) rfl (zgo rfl (z_sipush cd_X11_odds_16 ks_999 (p := 19) rfl (zgo rfl (z_ic_gt cd_X11_odds_19 (p := 41) rfl (p2 := 22) rfl (zgo rfl (z_iconst cd_X11_odds_41 ki_m1 (p := 42) rfl (zgo rfl (z_cs2 cd_X11_odds_42 (zs (key := 559) (by decide)) cl_X11_c559 rfl rfl rfl rfl (p := 45) rfl (fun _ => (zgo rfl (z_lret cd_X11_odds_45 rfl))))))) (zgo rfl (z_iload_n cd_X11_odds_22 (j := 3) rfl rfl (p := 23) rfl (zgo rfl (z_iconst cd_X11_odds_23 ki_2 (p := 24) rfl (zgo rfl (z_ic_lt cd_X11_odds_24 (p := 41) rfl (p2 := 27) rfl (zgo rfl (z_iconst cd_X11_odds_41 ki_m1 (p := 42) rfl (zgo rfl (z_cs2 cd_X11_odds_42 (zs (key := 559) (by decide)) cl_X11_c559 rfl rfl rfl rfl (p := 45) rfl (fun _ => (zgo rfl (z_lret cd_X11_odds_45 rfl))))))) (zgo rfl (z_iload_n cd_X11_odds_27 (j := 3) rfl rfl (p := 28) rfl (zgo rfl (z_bipush cd_X11_odds_28 kb_20 (p := 30) rfl (zgo rfl (z_ic_gt cd_X11_odds_30 (p := 41) rfl (p2 := 33) rfl (zgo rfl (z_iconst cd_X11_odds_41 ki_m1 (p := 42) rfl (zgo rfl (z_cs2 cd_X11_odds_42 (zs (key := 559) (by decide)) cl_X11_c559 rfl rfl rfl rfl (p := 45) rfl (fun _ => (zgo rfl (z_lret cd_X11_odds_45 rfl))))))) (zgo rfl (z_iload cd_X11_odds_33 rfl (p := 35) rfl (zgo rfl (z_cs1 cd_X11_odds_35 (zs (key := 550) (by decide)) cl_X11_c550 rfl rfl rfl rfl (p := 38) rfl (fun _ => (zgo rfl (z_if_ne cd_X11_odds_38 (p := 46) rfl (p2 := 41) rfl (zgo rfl (z_iconst cd_X11_odds_41 ki_m1 (p := 42) rfl (zgo rfl (z_cs2 cd_X11_odds_42 (zs (key := 559) (by decide)) cl_X11_c559 rfl rfl rfl rfl (p := 45) rfl (fun _ => (zgo rfl (z_lret cd_X11_odds_45 rfl))))))) (zgo rfl (z_iconst cd_X11_odds_46 ki_0 (p := 47) rfl (zgo rfl (z_istore cd_X11_odds_47 rfl (p := 49) rfl (zgo rfl (z_iconst cd_X11_odds_49 ki_0 (p := 50) rfl (zgo rfl (z_istore cd_X11_odds_50 rfl (p := 52) rfl (zcut (p := 52) rfl rfl)))))))))))))))))))))))))))))))))))))))))))))))))
theorem bk_X11_odds_52 (C : yC) (A : yM) (v0 : Nat) (v1 : Int32) (v2 : Int32) (v3 : Int32) (v4 : Int32) (v5 : Int32) (v6 : Int32) : yb_X11_odds C (52, [some (.ref v0), some (.int v1), some (.int v2), some (.int v3), some (.int v4), some (.int v5), some (.int v6), none], [], A) = ygR A v0 10 0 (fun a1 => ygI A a1 0 5 (fun x2 => if x2 ≤ v6 then (ygR A v0 10 5 (fun a3 => (yl (C 119 [.int v2, .ref a3, .int (0 : Int32), .int v5, .int v3] A)).bind (fun z4 => (yl (C 120 [.int v3, .int v5] z4.2)).bind (fun z5 => (yl (C 101 [.long z4.1, .long z5.1, .int v4] z5.2)).bind (fun z6 => some (some (.long z6.1), z6.2)))))) else (ygR A v0 10 0 (fun a7 => ygR A a7 0 6 (fun a8 => yrd A a8 v6 (fun x9 => if x9 = v1 then (ygR A v0 10 0 (fun a10 => (yi (yvt [(0, 4)] C [.ref a10, .int v6] A)).bind (fun z11 => if z11.1 = 0 then (ygR z11.2 v0 10 5 (fun a12 => ygR z11.2 v0 10 0 (fun a13 => ygR z11.2 v0 10 0 (fun a14 => (yi (yvt [(0, 13)] C [.ref a14, .int v6] z11.2)).bind (fun z15 => (yi (yvt [(0, 15)] C [.ref a13, .int v6, .int z15.1] z15.2)).bind (fun z16 => ywr z16.2 a12 v5 z16.1 (fun A17 => yb_X11_odds C (52, [some (.ref v0), some (.int v1), some (.int v2), some (.int v3), some (.int v4), some (.int (v5 + (1 : Int32))), some (.int (v6 + (1 : Int32))), none], [], A17)))))))) else (yb_X11_odds C (52, [some (.ref v0), some (.int v1), some (.int v2), some (.int v3), some (.int v4), some (.int v5), some (.int (v6 + (1 : Int32))), none], [], z11.2))))) else (yb_X11_odds C (52, [some (.ref v0), some (.int v1), some (.int v2), some (.int v3), some (.int v4), some (.int v5), some (.int (v6 + (1 : Int32))), none], [], A)))))))) := (ybig_blk 33 _).trans (z_iload cd_X11_odds_52 rfl (p := 54) rfl (zgo rfl (z_aload_n cd_X11_odds_54 (j := 0) rfl rfl (p := 55) rfl (zgo rfl (z_getR cd_X11_odds_55 fd_X11_12 (p := 58) rfl (fun _ => (zgo rfl (z_getI cd_X11_odds_58 fd_X11_158 (p := 61) rfl (fun _ => (zgo rfl (z_ic_ge cd_X11_odds_61 (p := 124) rfl (p2 := 64) rfl (zgo rfl (z_iload_n cd_X11_odds_124 (j := 2) rfl rfl (p := 125) rfl (zgo rfl (z_aload_n cd_X11_odds_125 (j := 0) rfl rfl (p := 126) rfl (zgo rfl (z_getR cd_X11_odds_126 fd_X11_33 (p := 129) rfl (fun _ => (zgo rfl (z_iconst cd_X11_odds_129 ki_0 (p := 130) rfl (zgo rfl (z_iload cd_X11_odds_130 rfl (p := 132) rfl (zgo rfl (z_iload_n cd_X11_odds_132 (j := 3) rfl rfl (p := 133) rfl (zgo rfl (z_cs2 cd_X11_odds_133 (zs (key := 922) (by decide)) cl_X11_c922 rfl rfl rfl rfl (p := 136) rfl (fun _ => (zgo rfl (z_lstore cd_X11_odds_136 rfl (p := 138) rfl (zgo rfl (z_lload cd_X11_odds_138 rfl (p := 140) rfl (zgo rfl (z_iload_n cd_X11_odds_140 (j := 3) rfl rfl (p := 141) rfl (zgo rfl (z_iload cd_X11_odds_141 rfl (p := 143) rfl (zgo rfl (z_cs2 cd_X11_odds_143 (zs (key := 934) (by decide)) cl_X11_c934 rfl rfl rfl rfl (p := 146) rfl (fun _ => (zgo rfl (z_iload cd_X11_odds_146 rfl (p := 148) rfl (zgo rfl (z_cs2 cd_X11_odds_148 (zs (key := 586) (by decide)) cl_X11_c586 rfl rfl rfl rfl (p := 151) rfl (fun _ => (zgo rfl (z_lret cd_X11_odds_151 rfl)))))))))))))))))))))))))))))))))) (zgo rfl (z_aload_n cd_X11_odds_64 (j := 0) rfl rfl (p := 65) rfl (zgo rfl (z_getR cd_X11_odds_65 fd_X11_12 (p := 68) rfl (fun _ => (zgo rfl (z_getR cd_X11_odds_68 fd_X11_93 (p := 71) rfl (fun _ => (zgo rfl (z_iload cd_X11_odds_71 rfl (p := 73) rfl (zgo rfl (z_iaload cd_X11_odds_73 (p := 74) rfl (fun _ => (zgo rfl (z_iload_n cd_X11_odds_74 (j := 1) rfl rfl (p := 75) rfl (zgo rfl (z_ic_ne cd_X11_odds_75 (p := 118) rfl (p2 := 78) rfl (zgo rfl (z_aload_n cd_X11_odds_78 (j := 0) rfl rfl (p := 79) rfl (zgo rfl (z_getR cd_X11_odds_79 fd_X11_12 (p := 82) rfl (fun _ => (zgo rfl (z_iload cd_X11_odds_82 rfl (p := 84) rfl (zgo rfl (z_cv1 cd_X11_odds_84 (zv (key := 315) (by decide)) cl_X11_c315 rfl rfl rfl rfl (p := 87) rfl (fun _ => (zgo rfl (z_if_ne cd_X11_odds_87 (p := 118) rfl (p2 := 90) rfl (zgo rfl (z_aload_n cd_X11_odds_90 (j := 0) rfl rfl (p := 91) rfl (zgo rfl (z_getR cd_X11_odds_91 fd_X11_33 (p := 94) rfl (fun _ => (zgo rfl (z_iload cd_X11_odds_94 rfl (p := 96) rfl (zgo rfl (z_aload_n cd_X11_odds_96 (j := 0) rfl rfl (p := 97) rfl (zgo rfl (z_getR cd_X11_odds_97 fd_X11_12 (p := 100) rfl (fun _ => (zgo rfl (z_iload cd_X11_odds_100 rfl (p := 102) rfl (zgo rfl (z_aload_n cd_X11_odds_102 (j := 0) rfl rfl (p := 103) rfl (zgo rfl (z_getR cd_X11_odds_103 fd_X11_12 (p := 106) rfl (fun _ => (zgo rfl (z_iload cd_X11_odds_106 rfl (p := 108) rfl (zgo rfl (z_cv1 cd_X11_odds_108 (zv (key := 333) (by decide)) cl_X11_c333 rfl rfl rfl rfl (p := 111) rfl (fun _ => (zgo rfl (z_cv1 cd_X11_odds_111 (zv (key := 342) (by decide)) cl_X11_c342 rfl rfl rfl rfl (p := 114) rfl (fun _ => (zgo rfl (z_iastore cd_X11_odds_114 (p := 115) rfl (fun _ => (zgo rfl (z_iinc cd_X11_odds_115 ki_1 rfl rfl (p := 118) rfl (zgo rfl (z_iinc cd_X11_odds_118 ki_1 rfl rfl (p := 121) rfl (zgo rfl (z_goto cd_X11_odds_121 (p := 52) rfl (zcut (p := 52) rfl rfl))))))))))))))))))))))))))))))))))))) (zgo rfl (z_iinc cd_X11_odds_118 ki_1 rfl rfl (p := 121) rfl (zgo rfl (z_goto cd_X11_odds_121 (p := 52) rfl (zcut (p := 52) rfl rfl))))))))))))))))) (zgo rfl (z_iinc cd_X11_odds_118 ki_1 rfl rfl (p := 121) rfl (zgo rfl (z_goto cd_X11_odds_121 (p := 52) rfl (zcut (p := 52) rfl rfl)))))))))))))))))))))))))))))))))
theorem cd_X11_waysToHave_0 : ylk m_X11_waysToHave.2.2.2.2.1 0 = some (.iload_n 0) := by decide +kernel
theorem cd_X11_waysToHave_1 : ylk m_X11_waysToHave.2.2.2.2.1 1 = some (.ifCond .gt 12) := by decide +kernel
theorem cd_X11_waysToHave_4 : ylk m_X11_waysToHave.2.2.2.2.1 4 = some (.iload 4) := by decide +kernel
theorem cd_X11_waysToHave_6 : ylk m_X11_waysToHave.2.2.2.2.1 6 = some (.iload_n 3) := by decide +kernel
theorem cd_X11_waysToHave_7 : ylk m_X11_waysToHave.2.2.2.2.1 7 = some (.iload_n 2) := by decide +kernel
theorem cd_X11_waysToHave_8 : ylk m_X11_waysToHave.2.2.2.2.1 8 = some (.isub) := by decide +kernel
theorem cd_X11_waysToHave_9 : ylk m_X11_waysToHave.2.2.2.2.1 9 = some (.invokestatic 311) := by decide +kernel
theorem cd_X11_waysToHave_12 : ylk m_X11_waysToHave.2.2.2.2.1 12 = some (.lreturn) := by decide +kernel
theorem cd_X11_waysToHave_13 : ylk m_X11_waysToHave.2.2.2.2.1 13 = some (.iload_n 2) := by decide +kernel
theorem cd_X11_waysToHave_14 : ylk m_X11_waysToHave.2.2.2.2.1 14 = some (.iload_n 3) := by decide +kernel
theorem cd_X11_waysToHave_15 : ylk m_X11_waysToHave.2.2.2.2.1 15 = some (.if_icmp .lt 5) := by decide +kernel
theorem cd_X11_waysToHave_18 : ylk m_X11_waysToHave.2.2.2.2.1 18 = some (.lconst 0) := by decide +kernel
theorem cd_X11_waysToHave_19 : ylk m_X11_waysToHave.2.2.2.2.1 19 = some (.lreturn) := by decide +kernel
theorem cd_X11_waysToHave_20 : ylk m_X11_waysToHave.2.2.2.2.1 20 = some (.iload 4) := by decide +kernel
theorem cd_X11_waysToHave_22 : ylk m_X11_waysToHave.2.2.2.2.1 22 = some (.iconst 1) := by decide +kernel
theorem cd_X11_waysToHave_23 : ylk m_X11_waysToHave.2.2.2.2.1 23 = some (.isub) := by decide +kernel
theorem cd_X11_waysToHave_24 : ylk m_X11_waysToHave.2.2.2.2.1 24 = some (.i2l) := by decide +kernel
theorem cd_X11_waysToHave_25 : ylk m_X11_waysToHave.2.2.2.2.1 25 = some (.iload_n 0) := by decide +kernel
theorem cd_X11_waysToHave_26 : ylk m_X11_waysToHave.2.2.2.2.1 26 = some (.aload_n 1) := by decide +kernel
theorem cd_X11_waysToHave_27 : ylk m_X11_waysToHave.2.2.2.2.1 27 = some (.iload_n 2) := by decide +kernel
theorem cd_X11_waysToHave_28 : ylk m_X11_waysToHave.2.2.2.2.1 28 = some (.iaload) := by decide +kernel
theorem cd_X11_waysToHave_29 : ylk m_X11_waysToHave.2.2.2.2.1 29 = some (.isub) := by decide +kernel
theorem cd_X11_waysToHave_30 : ylk m_X11_waysToHave.2.2.2.2.1 30 = some (.aload_n 1) := by decide +kernel
theorem cd_X11_waysToHave_31 : ylk m_X11_waysToHave.2.2.2.2.1 31 = some (.iload_n 2) := by decide +kernel
theorem cd_X11_waysToHave_32 : ylk m_X11_waysToHave.2.2.2.2.1 32 = some (.iconst 1) := by decide +kernel
theorem cd_X11_waysToHave_33 : ylk m_X11_waysToHave.2.2.2.2.1 33 = some (.iadd) := by decide +kernel
theorem cd_X11_waysToHave_34 : ylk m_X11_waysToHave.2.2.2.2.1 34 = some (.iload_n 3) := by decide +kernel
theorem cd_X11_waysToHave_35 : ylk m_X11_waysToHave.2.2.2.2.1 35 = some (.iload 4) := by decide +kernel
theorem cd_X11_waysToHave_37 : ylk m_X11_waysToHave.2.2.2.2.1 37 = some (.invokestatic 307) := by decide +kernel
theorem cd_X11_waysToHave_40 : ylk m_X11_waysToHave.2.2.2.2.1 40 = some (.lmul) := by decide +kernel
theorem cd_X11_waysToHave_41 : ylk m_X11_waysToHave.2.2.2.2.1 41 = some (.iload_n 0) := by decide +kernel
theorem cd_X11_waysToHave_42 : ylk m_X11_waysToHave.2.2.2.2.1 42 = some (.aload_n 1) := by decide +kernel
theorem cd_X11_waysToHave_43 : ylk m_X11_waysToHave.2.2.2.2.1 43 = some (.iload_n 2) := by decide +kernel
theorem cd_X11_waysToHave_44 : ylk m_X11_waysToHave.2.2.2.2.1 44 = some (.iconst 1) := by decide +kernel
theorem cd_X11_waysToHave_45 : ylk m_X11_waysToHave.2.2.2.2.1 45 = some (.iadd) := by decide +kernel
theorem cd_X11_waysToHave_46 : ylk m_X11_waysToHave.2.2.2.2.1 46 = some (.iload_n 3) := by decide +kernel
theorem cd_X11_waysToHave_47 : ylk m_X11_waysToHave.2.2.2.2.1 47 = some (.iload 4) := by decide +kernel
theorem cd_X11_waysToHave_49 : ylk m_X11_waysToHave.2.2.2.2.1 49 = some (.invokestatic 307) := by decide +kernel
theorem cd_X11_waysToHave_52 : ylk m_X11_waysToHave.2.2.2.2.1 52 = some (.ladd) := by decide +kernel
theorem cd_X11_waysToHave_53 : ylk m_X11_waysToHave.2.2.2.2.1 53 = some (.lreturn) := by decide +kernel
noncomputable abbrev yb_X11_waysToHave (C : yC) : ySt → Option (Option Value × yM) := yrn m_X11_waysToHave C
theorem en_X11_waysToHave (n : Nat) (A : yM) (v0 : Int32) (v1 : Nat) (v2 : Int32) (v3 : Int32) (v4 : Int32) : ycall (n + 1) 119 [.int v0, .ref v1, .int v2, .int v3, .int v4] A = if 0 < v0 then (if v2 < v3 then (yrd A v1 v2 (fun x1 => (yl ((ycall n) 119 [.int (v0 - x1), .ref v1, .int (v2 + (1 : Int32)), .int v3, .int v4] A)).bind (fun z2 => (yl ((ycall n) 119 [.int v0, .ref v1, .int (v2 + (1 : Int32)), .int v3, .int v4] z2.2)).bind (fun z3 => some (some (.long ((((v4 - (1 : Int32)).toInt64) * z2.1) + z3.1)), z3.2))))) else (some (some (.long (0 : Int64)), A))) else ((yl ((ycall n) 120 [.int v4, .int (v3 - v2)] A)).bind (fun z4 => some (some (.long z4.1), z4.2))) := (ybig_blk 33 _).trans (z_iload_n cd_X11_waysToHave_0 (j := 0) rfl rfl (p := 1) rfl (zgo rfl (z_if_gt cd_X11_waysToHave_1 (p := 13) rfl (p2 := 4) rfl (zgo rfl (z_iload_n cd_X11_waysToHave_13 (j := 2) rfl rfl (p := 14) rfl (zgo rfl (z_iload_n cd_X11_waysToHave_14 (j := 3) rfl rfl (p := 15) rfl (zgo rfl (z_ic_lt cd_X11_waysToHave_15 (p := 20) rfl (p2 := 18) rfl (zgo rfl (z_iload cd_X11_waysToHave_20 rfl (p := 22) rfl (zgo rfl (z_iconst cd_X11_waysToHave_22 ki_1 (p := 23) rfl (zgo rfl (z_isub cd_X11_waysToHave_23 (p := 24) rfl (zgo rfl (z_i2l cd_X11_waysToHave_24 (p := 25) rfl (zgo rfl (z_iload_n cd_X11_waysToHave_25 (j := 0) rfl rfl (p := 26) rfl (zgo rfl (z_aload_n cd_X11_waysToHave_26 (j := 1) rfl rfl (p := 27) rfl (zgo rfl (z_iload_n cd_X11_waysToHave_27 (j := 2) rfl rfl (p := 28) rfl (zgo rfl (z_iaload cd_X11_waysToHave_28 (p := 29) rfl (fun _ => (zgo rfl (z_isub cd_X11_waysToHave_29 (p := 30) rfl (zgo rfl (z_aload_n cd_X11_waysToHave_30 (j := 1) rfl rfl (p := 31) rfl (zgo rfl (z_iload_n cd_X11_waysToHave_31 (j := 2) rfl rfl (p := 32) rfl (zgo rfl (z_iconst cd_X11_waysToHave_32 ki_1 (p := 33) rfl (zgo rfl (z_iadd cd_X11_waysToHave_33 (p := 34) rfl (zgo rfl (z_iload_n cd_X11_waysToHave_34 (j := 3) rfl rfl (p := 35) rfl (zgo rfl (z_iload cd_X11_waysToHave_35 rfl (p := 37) rfl (zgo rfl (z_cs2 cd_X11_waysToHave_37 (zs (key := 922) (by decide)) cl_X11_c922 rfl rfl rfl rfl (p := 40) rfl (fun _ => (zgo rfl (z_lmul cd_X11_waysToHave_40 (p := 41) rfl (zgo rfl (z_iload_n cd_X11_waysToHave_41 (j := 0) rfl rfl (p := 42) rfl (zgo rfl (z_aload_n cd_X11_waysToHave_42 (j := 1) rfl rfl (p := 43) rfl (zgo rfl (z_iload_n cd_X11_waysToHave_43 (j := 2) rfl rfl (p := 44) rfl (zgo rfl (z_iconst cd_X11_waysToHave_44 ki_1 (p := 45) rfl (zgo rfl (z_iadd cd_X11_waysToHave_45 (p := 46) rfl (zgo rfl (z_iload_n cd_X11_waysToHave_46 (j := 3) rfl rfl (p := 47) rfl (zgo rfl (z_iload cd_X11_waysToHave_47 rfl (p := 49) rfl (zgo rfl (z_cs2 cd_X11_waysToHave_49 (zs (key := 922) (by decide)) cl_X11_c922 rfl rfl rfl rfl (p := 52) rfl (fun _ => (zgo rfl (z_ladd cd_X11_waysToHave_52 (p := 53) rfl (zgo rfl (z_lret cd_X11_waysToHave_53 rfl))))))))))))))))))))))))))))))))))))))))))))))))))))))))) (zgo rfl (z_lconst cd_X11_waysToHave_18 kl_0 (p := 19) rfl (zgo rfl (z_lret cd_X11_waysToHave_19 rfl)))))))))) (zgo rfl (z_iload cd_X11_waysToHave_4 rfl (p := 6) rfl (zgo rfl (z_iload_n cd_X11_waysToHave_6 (j := 3) rfl rfl (p := 7) rfl (zgo rfl (z_iload_n cd_X11_waysToHave_7 (j := 2) rfl rfl (p := 8) rfl (zgo rfl (z_isub cd_X11_waysToHave_8 (p := 9) rfl (zgo rfl (z_cs2 cd_X11_waysToHave_9 (zs (key := 934) (by decide)) cl_X11_c934 rfl rfl rfl rfl (p := 12) rfl (fun _ => (zgo rfl (z_lret cd_X11_waysToHave_12 rfl))))))))))))))))
theorem cd_X11_power_0 : ylk m_X11_power.2.2.2.2.1 0 = some (.lconst 1) := by decide +kernel
theorem cd_X11_power_1 : ylk m_X11_power.2.2.2.2.1 1 = some (.lstore_n 2) := by decide +kernel
theorem cd_X11_power_2 : ylk m_X11_power.2.2.2.2.1 2 = some (.iconst 0) := by decide +kernel
theorem cd_X11_power_3 : ylk m_X11_power.2.2.2.2.1 3 = some (.istore 4) := by decide +kernel
theorem cd_X11_power_5 : ylk m_X11_power.2.2.2.2.1 5 = some (.iload 4) := by decide +kernel
theorem cd_X11_power_7 : ylk m_X11_power.2.2.2.2.1 7 = some (.iload_n 1) := by decide +kernel
theorem cd_X11_power_8 : ylk m_X11_power.2.2.2.2.1 8 = some (.if_icmp .ge 14) := by decide +kernel
theorem cd_X11_power_11 : ylk m_X11_power.2.2.2.2.1 11 = some (.lload_n 2) := by decide +kernel
theorem cd_X11_power_12 : ylk m_X11_power.2.2.2.2.1 12 = some (.iload_n 0) := by decide +kernel
theorem cd_X11_power_13 : ylk m_X11_power.2.2.2.2.1 13 = some (.i2l) := by decide +kernel
theorem cd_X11_power_14 : ylk m_X11_power.2.2.2.2.1 14 = some (.lmul) := by decide +kernel
theorem cd_X11_power_15 : ylk m_X11_power.2.2.2.2.1 15 = some (.lstore_n 2) := by decide +kernel
theorem cd_X11_power_16 : ylk m_X11_power.2.2.2.2.1 16 = some (.iinc 4 1) := by decide +kernel
theorem cd_X11_power_19 : ylk m_X11_power.2.2.2.2.1 19 = some (.goto (-14)) := by decide +kernel
theorem cd_X11_power_22 : ylk m_X11_power.2.2.2.2.1 22 = some (.lload_n 2) := by decide +kernel
theorem cd_X11_power_23 : ylk m_X11_power.2.2.2.2.1 23 = some (.lreturn) := by decide +kernel
noncomputable abbrev yb_X11_power (C : yC) : ySt → Option (Option Value × yM) := yrn m_X11_power C
theorem en_X11_power (n : Nat) (A : yM) (v0 : Int32) (v1 : Int32) : ycall (n + 1) 120 [.int v0, .int v1] A = yb_X11_power (ycall n) (5, [some (.int v0), some (.int v1), some (.long (1 : Int64)), none, some (.int (0 : Int32))], [], A) := (ybig_blk 5 _).trans (z_lconst cd_X11_power_0 kl_1 (p := 1) rfl (zgo rfl (z_lstore_n cd_X11_power_1 (j := 2) rfl rfl (p := 2) rfl (zgo rfl (z_iconst cd_X11_power_2 ki_0 (p := 3) rfl (zgo rfl (z_istore cd_X11_power_3 rfl (p := 5) rfl (zcut (p := 5) rfl rfl))))))))
theorem bk_X11_power_5 (C : yC) (A : yM) (v0 : Int32) (v1 : Int32) (v2 : Int64) (v4 : Int32) : yb_X11_power C (5, [some (.int v0), some (.int v1), some (.long v2), none, some (.int v4)], [], A) = if v1 ≤ v4 then (some (some (.long v2), A)) else (yb_X11_power C (5, [some (.int v0), some (.int v1), some (.long (v2 * v0.toInt64)), none, some (.int (v4 + (1 : Int32)))], [], A)) := (ybig_blk 11 _).trans (z_iload cd_X11_power_5 rfl (p := 7) rfl (zgo rfl (z_iload_n cd_X11_power_7 (j := 1) rfl rfl (p := 8) rfl (zgo rfl (z_ic_ge cd_X11_power_8 (p := 22) rfl (p2 := 11) rfl (zgo rfl (z_lload_n cd_X11_power_22 (j := 2) rfl rfl (p := 23) rfl (zgo rfl (z_lret cd_X11_power_23 rfl)))) (zgo rfl (z_lload_n cd_X11_power_11 (j := 2) rfl rfl (p := 12) rfl (zgo rfl (z_iload_n cd_X11_power_12 (j := 0) rfl rfl (p := 13) rfl (zgo rfl (z_i2l cd_X11_power_13 (p := 14) rfl (zgo rfl (z_lmul cd_X11_power_14 (p := 15) rfl (zgo rfl (z_lstore_n cd_X11_power_15 (j := 2) rfl rfl (p := 16) rfl (zgo rfl (z_iinc cd_X11_power_16 ki_1 rfl rfl (p := 19) rfl (zgo rfl (z_goto cd_X11_power_19 (p := 5) rfl (zcut (p := 5) rfl rfl))))))))))))))))))))
theorem cd_X11_mean_0 : ylk m_X11_mean.2.2.2.2.1 0 = some (.iload_n 1) := by decide +kernel
theorem cd_X11_mean_1 : ylk m_X11_mean.2.2.2.2.1 1 = some (.invokestatic 183) := by decide +kernel
theorem cd_X11_mean_4 : ylk m_X11_mean.2.2.2.2.1 4 = some (.ifCond .ne 8) := by decide +kernel
theorem cd_X11_mean_7 : ylk m_X11_mean.2.2.2.2.1 7 = some (.iconst (-1)) := by decide +kernel
theorem cd_X11_mean_8 : ylk m_X11_mean.2.2.2.2.1 8 = some (.invokestatic 186) := by decide +kernel
theorem cd_X11_mean_11 : ylk m_X11_mean.2.2.2.2.1 11 = some (.lreturn) := by decide +kernel
theorem cd_X11_mean_12 : ylk m_X11_mean.2.2.2.2.1 12 = some (.aload_n 0) := by decide +kernel
theorem cd_X11_mean_13 : ylk m_X11_mean.2.2.2.2.1 13 = some (.getfield 12) := by decide +kernel
theorem cd_X11_mean_16 : ylk m_X11_mean.2.2.2.2.1 16 = some (.invokevirtual 315) := by decide +kernel
theorem cd_X11_mean_19 : ylk m_X11_mean.2.2.2.2.1 19 = some (.i2l) := by decide +kernel
theorem cd_X11_mean_20 : ylk m_X11_mean.2.2.2.2.1 20 = some (.iconst 1) := by decide +kernel
theorem cd_X11_mean_21 : ylk m_X11_mean.2.2.2.2.1 21 = some (.aload_n 0) := by decide +kernel
theorem cd_X11_mean_22 : ylk m_X11_mean.2.2.2.2.1 22 = some (.getfield 12) := by decide +kernel
theorem cd_X11_mean_25 : ylk m_X11_mean.2.2.2.2.1 25 = some (.getfield 158) := by decide +kernel
theorem cd_X11_mean_28 : ylk m_X11_mean.2.2.2.2.1 28 = some (.invokestatic 215) := by decide +kernel
theorem cd_X11_mean_31 : ylk m_X11_mean.2.2.2.2.1 31 = some (.i2l) := by decide +kernel
theorem cd_X11_mean_32 : ylk m_X11_mean.2.2.2.2.1 32 = some (.iload_n 1) := by decide +kernel
theorem cd_X11_mean_33 : ylk m_X11_mean.2.2.2.2.1 33 = some (.invokestatic 195) := by decide +kernel
theorem cd_X11_mean_36 : ylk m_X11_mean.2.2.2.2.1 36 = some (.lreturn) := by decide +kernel
noncomputable abbrev yb_X11_mean (C : yC) : ySt → Option (Option Value × yM) := yrn m_X11_mean C
theorem en_X11_mean (n : Nat) (A : yM) (v0 : Nat) (v1 : Int32) : ycall (n + 1) 121 [.ref v0, .int v1] A = (yi ((ycall n) 99 [.int v1] A)).bind (fun z1 => if z1.1 = 0 then ((yl ((ycall n) 100 [.int (-1 : Int32)] z1.2)).bind (fun z7 => some (some (.long z7.1), z7.2))) else (ygR z1.2 v0 10 0 (fun a2 => (yi (yvt [(0, 19)] (ycall n) [.ref a2] z1.2)).bind (fun z3 => ygR z3.2 v0 10 0 (fun a4 => ygI z3.2 a4 0 5 (fun x5 => (yl ((ycall n) 101 [.long z3.1.toInt64, .long ((if (1 : Int32) < x5 then x5 else (1 : Int32)).toInt64), .int v1] z3.2)).bind (fun z6 => some (some (.long z6.1), z6.2)))))))) := (ybig_blk 17 _).trans (z_iload_n cd_X11_mean_0 (j := 1) rfl rfl (p := 1) rfl (zgo rfl (z_cs1 cd_X11_mean_1 (zs (key := 550) (by decide)) cl_X11_c550 rfl rfl rfl rfl (p := 4) rfl (fun _ => (zgo rfl (z_if_ne cd_X11_mean_4 (p := 12) rfl (p2 := 7) rfl (zgo rfl (z_iconst cd_X11_mean_7 ki_m1 (p := 8) rfl (zgo rfl (z_cs2 cd_X11_mean_8 (zs (key := 559) (by decide)) cl_X11_c559 rfl rfl rfl rfl (p := 11) rfl (fun _ => (zgo rfl (z_lret cd_X11_mean_11 rfl))))))) (zgo rfl (z_aload_n cd_X11_mean_12 (j := 0) rfl rfl (p := 13) rfl (zgo rfl (z_getR cd_X11_mean_13 fd_X11_12 (p := 16) rfl (fun _ => (zgo rfl (z_cv1 cd_X11_mean_16 (zv (key := 945) (by decide)) cl_X11_c945 rfl rfl rfl rfl (p := 19) rfl (fun _ => (zgo rfl (z_i2l cd_X11_mean_19 (p := 20) rfl (zgo rfl (z_iconst cd_X11_mean_20 ki_1 (p := 21) rfl (zgo rfl (z_aload_n cd_X11_mean_21 (j := 0) rfl rfl (p := 22) rfl (zgo rfl (z_getR cd_X11_mean_22 fd_X11_12 (p := 25) rfl (fun _ => (zgo rfl (z_getI cd_X11_mean_25 fd_X11_158 (p := 28) rfl (fun _ => (zgo rfl (z_max cd_X11_mean_28 (zs (key := 646) (by decide)) cl_X11_c646 rfl (p := 31) rfl (zgo rfl (z_i2l cd_X11_mean_31 (p := 32) rfl (zgo rfl (z_iload_n cd_X11_mean_32 (j := 1) rfl rfl (p := 33) rfl (zgo rfl (z_cs2 cd_X11_mean_33 (zs (key := 586) (by decide)) cl_X11_c586 rfl rfl rfl rfl (p := 36) rfl (fun _ => (zgo rfl (z_lret cd_X11_mean_36 rfl)))))))))))))))))))))))))))))))))))))
theorem cd_X11_forged_0 : ylk m_X11_forged.2.2.2.2.1 0 = some (.aload_n 0) := by decide +kernel
theorem cd_X11_forged_1 : ylk m_X11_forged.2.2.2.2.1 1 = some (.iload_n 1) := by decide +kernel
theorem cd_X11_forged_2 : ylk m_X11_forged.2.2.2.2.1 2 = some (.invokevirtual 43) := by decide +kernel
theorem cd_X11_forged_5 : ylk m_X11_forged.2.2.2.2.1 5 = some (.istore_n 2) := by decide +kernel
theorem cd_X11_forged_6 : ylk m_X11_forged.2.2.2.2.1 6 = some (.iload_n 2) := by decide +kernel
theorem cd_X11_forged_7 : ylk m_X11_forged.2.2.2.2.1 7 = some (.ifCond .eq 5) := by decide +kernel
theorem cd_X11_forged_10 : ylk m_X11_forged.2.2.2.2.1 10 = some (.iload_n 2) := by decide +kernel
theorem cd_X11_forged_11 : ylk m_X11_forged.2.2.2.2.1 11 = some (.ireturn) := by decide +kernel
theorem cd_X11_forged_12 : ylk m_X11_forged.2.2.2.2.1 12 = some (.aload_n 0) := by decide +kernel
theorem cd_X11_forged_13 : ylk m_X11_forged.2.2.2.2.1 13 = some (.getfield 28) := by decide +kernel
theorem cd_X11_forged_16 : ylk m_X11_forged.2.2.2.2.1 16 = some (.iload_n 1) := by decide +kernel
theorem cd_X11_forged_17 : ylk m_X11_forged.2.2.2.2.1 17 = some (.aaload) := by decide +kernel
theorem cd_X11_forged_18 : ylk m_X11_forged.2.2.2.2.1 18 = some (.astore_n 3) := by decide +kernel
theorem cd_X11_forged_19 : ylk m_X11_forged.2.2.2.2.1 19 = some (.iconst 0) := by decide +kernel
theorem cd_X11_forged_20 : ylk m_X11_forged.2.2.2.2.1 20 = some (.istore 4) := by decide +kernel
theorem cd_X11_forged_22 : ylk m_X11_forged.2.2.2.2.1 22 = some (.iload 4) := by decide +kernel
theorem cd_X11_forged_24 : ylk m_X11_forged.2.2.2.2.1 24 = some (.aload_n 3) := by decide +kernel
theorem cd_X11_forged_25 : ylk m_X11_forged.2.2.2.2.1 25 = some (.getfield 257) := by decide +kernel
theorem cd_X11_forged_28 : ylk m_X11_forged.2.2.2.2.1 28 = some (.if_icmp .ge 44) := by decide +kernel
theorem cd_X11_forged_31 : ylk m_X11_forged.2.2.2.2.1 31 = some (.aload_n 0) := by decide +kernel
theorem cd_X11_forged_32 : ylk m_X11_forged.2.2.2.2.1 32 = some (.getfield 12) := by decide +kernel
theorem cd_X11_forged_35 : ylk m_X11_forged.2.2.2.2.1 35 = some (.iload 4) := by decide +kernel
theorem cd_X11_forged_37 : ylk m_X11_forged.2.2.2.2.1 37 = some (.invokevirtual 90) := by decide +kernel
theorem cd_X11_forged_40 : ylk m_X11_forged.2.2.2.2.1 40 = some (.ifCond .eq 23) := by decide +kernel
theorem cd_X11_forged_43 : ylk m_X11_forged.2.2.2.2.1 43 = some (.aload_n 0) := by decide +kernel
theorem cd_X11_forged_44 : ylk m_X11_forged.2.2.2.2.1 44 = some (.getfield 12) := by decide +kernel
theorem cd_X11_forged_47 : ylk m_X11_forged.2.2.2.2.1 47 = some (.getfield 99) := by decide +kernel
theorem cd_X11_forged_50 : ylk m_X11_forged.2.2.2.2.1 50 = some (.iload 4) := by decide +kernel
theorem cd_X11_forged_52 : ylk m_X11_forged.2.2.2.2.1 52 = some (.iaload) := by decide +kernel
theorem cd_X11_forged_53 : ylk m_X11_forged.2.2.2.2.1 53 = some (.aload_n 3) := by decide +kernel
theorem cd_X11_forged_54 : ylk m_X11_forged.2.2.2.2.1 54 = some (.getfield 260) := by decide +kernel
theorem cd_X11_forged_57 : ylk m_X11_forged.2.2.2.2.1 57 = some (.iload 4) := by decide +kernel
theorem cd_X11_forged_59 : ylk m_X11_forged.2.2.2.2.1 59 = some (.iaload) := by decide +kernel
theorem cd_X11_forged_60 : ylk m_X11_forged.2.2.2.2.1 60 = some (.if_icmp .eq 6) := by decide +kernel
theorem cd_X11_forged_63 : ylk m_X11_forged.2.2.2.2.1 63 = some (.iload 4) := by decide +kernel
theorem cd_X11_forged_65 : ylk m_X11_forged.2.2.2.2.1 65 = some (.ireturn) := by decide +kernel
theorem cd_X11_forged_66 : ylk m_X11_forged.2.2.2.2.1 66 = some (.iinc 4 1) := by decide +kernel
theorem cd_X11_forged_69 : ylk m_X11_forged.2.2.2.2.1 69 = some (.goto (-47)) := by decide +kernel
theorem cd_X11_forged_72 : ylk m_X11_forged.2.2.2.2.1 72 = some (.bipush (-4)) := by decide +kernel
theorem cd_X11_forged_74 : ylk m_X11_forged.2.2.2.2.1 74 = some (.ireturn) := by decide +kernel
noncomputable abbrev yb_X11_forged (C : yC) : ySt → Option (Option Value × yM) := yrn m_X11_forged C
theorem en_X11_forged (n : Nat) (A : yM) (v0 : Nat) (v1 : Int32) : ycall (n + 1) 122 [.ref v0, .int v1] A = (yi (yvt [(10, 135)] (ycall n) [.ref v0, .int v1] A)).bind (fun z1 => if z1.1 = 0 then (ygR z1.2 v0 10 4 (fun a2 => yrR z1.2 a2 v1 (fun a3 => yb_X11_forged (ycall n) (22, [some (.ref v0), none, none, some (.ref a3), some (.int (0 : Int32))], [], z1.2)))) else (some (some (.int z1.1), z1.2))) := (ybig_blk 14 _).trans (z_aload_n cd_X11_forged_0 (j := 0) rfl rfl (p := 1) rfl (zgo rfl (z_iload_n cd_X11_forged_1 (j := 1) rfl rfl (p := 2) rfl (zgo rfl (z_cv1 cd_X11_forged_2 (zv (key := 129) (by decide)) cl_X11_c129 rfl rfl rfl rfl (p := 5) rfl (fun _ => (zgo rfl (z_istore_n cd_X11_forged_5 (j := 2) rfl rfl (p := 6) rfl (zgo rfl (z_iload_n cd_X11_forged_6 (j := 2) rfl rfl (p := 7) rfl (zgo rfl (z_if_eq cd_X11_forged_7 (p := 12) rfl (p2 := 10) rfl (zgo rfl (z_aload_n cd_X11_forged_12 (j := 0) rfl rfl (p := 13) rfl (zgo rfl (z_getR cd_X11_forged_13 fd_X11_28 (p := 16) rfl (fun _ => (zgo rfl (z_iload_n cd_X11_forged_16 (j := 1) rfl rfl (p := 17) rfl (zgo rfl (z_aaload cd_X11_forged_17 (p := 18) rfl (fun _ => (zgo rfl (z_astore_n cd_X11_forged_18 (j := 3) rfl rfl (p := 19) rfl (zgo rfl (z_iconst cd_X11_forged_19 ki_0 (p := 20) rfl (zgo rfl (z_istore cd_X11_forged_20 rfl (p := 22) rfl (zcut (p := 22) rfl rfl))))))))))))))))) (zgo rfl (z_iload_n cd_X11_forged_10 (j := 2) rfl rfl (p := 11) rfl (zgo rfl (z_iret cd_X11_forged_11 rfl))))))))))))))))
theorem bk_X11_forged_22 (C : yC) (A : yM) (v0 : Nat) (v3 : Nat) (v4 : Int32) : yb_X11_forged C (22, [some (.ref v0), none, none, some (.ref v3), some (.int v4)], [], A) = ygI A v3 7 4 (fun x1 => if x1 ≤ v4 then (some (some (.int (-4 : Int32)), A)) else (ygR A v0 10 0 (fun a2 => (yi (yvt [(0, 2)] C [.ref a2, .int v4] A)).bind (fun z3 => if z3.1 = 0 then (some (some (.int v4), z3.2)) else (ygR z3.2 v0 10 0 (fun a4 => ygR z3.2 a4 0 8 (fun a5 => yrd z3.2 a5 v4 (fun x6 => ygR z3.2 v3 7 5 (fun a7 => yrd z3.2 a7 v4 (fun x8 => if x6 = x8 then (yb_X11_forged C (22, [some (.ref v0), none, none, some (.ref v3), some (.int (v4 + (1 : Int32)))], [], z3.2)) else (some (some (.int v4), z3.2)))))))))))) := (ybig_blk 22 _).trans (z_iload cd_X11_forged_22 rfl (p := 24) rfl (zgo rfl (z_aload_n cd_X11_forged_24 (j := 3) rfl rfl (p := 25) rfl (zgo rfl (z_getI cd_X11_forged_25 fd_X11_257 (p := 28) rfl (fun _ => (zgo rfl (z_ic_ge cd_X11_forged_28 (p := 72) rfl (p2 := 31) rfl (zgo rfl (z_bipush cd_X11_forged_72 kb_m4 (p := 74) rfl (zgo rfl (z_iret cd_X11_forged_74 rfl)))) (zgo rfl (z_aload_n cd_X11_forged_31 (j := 0) rfl rfl (p := 32) rfl (zgo rfl (z_getR cd_X11_forged_32 fd_X11_12 (p := 35) rfl (fun _ => (zgo rfl (z_iload cd_X11_forged_35 rfl (p := 37) rfl (zgo rfl (z_cv1 cd_X11_forged_37 (zv (key := 270) (by decide)) cl_X11_c270 rfl rfl rfl rfl (p := 40) rfl (fun _ => (zgo rfl (z_if_eq cd_X11_forged_40 (p := 63) rfl (p2 := 43) rfl (zgo rfl (z_iload cd_X11_forged_63 rfl (p := 65) rfl (zgo rfl (z_iret cd_X11_forged_65 rfl)))) (zgo rfl (z_aload_n cd_X11_forged_43 (j := 0) rfl rfl (p := 44) rfl (zgo rfl (z_getR cd_X11_forged_44 fd_X11_12 (p := 47) rfl (fun _ => (zgo rfl (z_getR cd_X11_forged_47 fd_X11_99 (p := 50) rfl (fun _ => (zgo rfl (z_iload cd_X11_forged_50 rfl (p := 52) rfl (zgo rfl (z_iaload cd_X11_forged_52 (p := 53) rfl (fun _ => (zgo rfl (z_aload_n cd_X11_forged_53 (j := 3) rfl rfl (p := 54) rfl (zgo rfl (z_getR cd_X11_forged_54 fd_X11_260 (p := 57) rfl (fun _ => (zgo rfl (z_iload cd_X11_forged_57 rfl (p := 59) rfl (zgo rfl (z_iaload cd_X11_forged_59 (p := 60) rfl (fun _ => (zgo rfl (z_ic_eq cd_X11_forged_60 (p := 66) rfl (p2 := 63) rfl (zgo rfl (z_iinc cd_X11_forged_66 ki_1 rfl rfl (p := 69) rfl (zgo rfl (z_goto cd_X11_forged_69 (p := 22) rfl (zcut (p := 22) rfl rfl))))) (zgo rfl (z_iload cd_X11_forged_63 rfl (p := 65) rfl (zgo rfl (z_iret cd_X11_forged_65 rfl)))))))))))))))))))))))))))))))))))))))))))))))))
theorem cd_X11_judge_0 : ylk m_X11_judge.2.2.2.2.1 0 = some (.aload_n 0) := by decide +kernel
theorem cd_X11_judge_1 : ylk m_X11_judge.2.2.2.2.1 1 = some (.iload_n 1) := by decide +kernel
theorem cd_X11_judge_2 : ylk m_X11_judge.2.2.2.2.1 2 = some (.invokevirtual 43) := by decide +kernel
theorem cd_X11_judge_5 : ylk m_X11_judge.2.2.2.2.1 5 = some (.istore_n 2) := by decide +kernel
theorem cd_X11_judge_6 : ylk m_X11_judge.2.2.2.2.1 6 = some (.iload_n 2) := by decide +kernel
theorem cd_X11_judge_7 : ylk m_X11_judge.2.2.2.2.1 7 = some (.ifCond .eq 5) := by decide +kernel
theorem cd_X11_judge_10 : ylk m_X11_judge.2.2.2.2.1 10 = some (.iload_n 2) := by decide +kernel
theorem cd_X11_judge_11 : ylk m_X11_judge.2.2.2.2.1 11 = some (.ireturn) := by decide +kernel
theorem cd_X11_judge_12 : ylk m_X11_judge.2.2.2.2.1 12 = some (.aload_n 0) := by decide +kernel
theorem cd_X11_judge_13 : ylk m_X11_judge.2.2.2.2.1 13 = some (.getfield 28) := by decide +kernel
theorem cd_X11_judge_16 : ylk m_X11_judge.2.2.2.2.1 16 = some (.iload_n 1) := by decide +kernel
theorem cd_X11_judge_17 : ylk m_X11_judge.2.2.2.2.1 17 = some (.aaload) := by decide +kernel
theorem cd_X11_judge_18 : ylk m_X11_judge.2.2.2.2.1 18 = some (.astore_n 3) := by decide +kernel
theorem cd_X11_judge_19 : ylk m_X11_judge.2.2.2.2.1 19 = some (.aload_n 0) := by decide +kernel
theorem cd_X11_judge_20 : ylk m_X11_judge.2.2.2.2.1 20 = some (.getfield 16) := by decide +kernel
theorem cd_X11_judge_23 : ylk m_X11_judge.2.2.2.2.1 23 = some (.aload_n 0) := by decide +kernel
theorem cd_X11_judge_24 : ylk m_X11_judge.2.2.2.2.1 24 = some (.getfield 12) := by decide +kernel
theorem cd_X11_judge_27 : ylk m_X11_judge.2.2.2.2.1 27 = some (.invokevirtual 57) := by decide +kernel
theorem cd_X11_judge_30 : ylk m_X11_judge.2.2.2.2.1 30 = some (.iconst 0) := by decide +kernel
theorem cd_X11_judge_31 : ylk m_X11_judge.2.2.2.2.1 31 = some (.istore 4) := by decide +kernel
theorem cd_X11_judge_33 : ylk m_X11_judge.2.2.2.2.1 33 = some (.iload 4) := by decide +kernel
theorem cd_X11_judge_35 : ylk m_X11_judge.2.2.2.2.1 35 = some (.aload_n 3) := by decide +kernel
theorem cd_X11_judge_36 : ylk m_X11_judge.2.2.2.2.1 36 = some (.getfield 257) := by decide +kernel
theorem cd_X11_judge_39 : ylk m_X11_judge.2.2.2.2.1 39 = some (.if_icmp .ge 46) := by decide +kernel
theorem cd_X11_judge_42 : ylk m_X11_judge.2.2.2.2.1 42 = some (.aload_n 3) := by decide +kernel
theorem cd_X11_judge_43 : ylk m_X11_judge.2.2.2.2.1 43 = some (.iload 4) := by decide +kernel
theorem cd_X11_judge_45 : ylk m_X11_judge.2.2.2.2.1 45 = some (.invokevirtual 298) := by decide +kernel
theorem cd_X11_judge_48 : ylk m_X11_judge.2.2.2.2.1 48 = some (.ifCond .ne 23) := by decide +kernel
theorem cd_X11_judge_51 : ylk m_X11_judge.2.2.2.2.1 51 = some (.aload_n 3) := by decide +kernel
theorem cd_X11_judge_52 : ylk m_X11_judge.2.2.2.2.1 52 = some (.getfield 260) := by decide +kernel
theorem cd_X11_judge_55 : ylk m_X11_judge.2.2.2.2.1 55 = some (.iload 4) := by decide +kernel
theorem cd_X11_judge_57 : ylk m_X11_judge.2.2.2.2.1 57 = some (.iaload) := by decide +kernel
theorem cd_X11_judge_58 : ylk m_X11_judge.2.2.2.2.1 58 = some (.aload_n 0) := by decide +kernel
theorem cd_X11_judge_59 : ylk m_X11_judge.2.2.2.2.1 59 = some (.getfield 16) := by decide +kernel
theorem cd_X11_judge_62 : ylk m_X11_judge.2.2.2.2.1 62 = some (.invokevirtual 141) := by decide +kernel
theorem cd_X11_judge_65 : ylk m_X11_judge.2.2.2.2.1 65 = some (.if_icmp .eq 6) := by decide +kernel
theorem cd_X11_judge_68 : ylk m_X11_judge.2.2.2.2.1 68 = some (.iload 4) := by decide +kernel
theorem cd_X11_judge_70 : ylk m_X11_judge.2.2.2.2.1 70 = some (.ireturn) := by decide +kernel
theorem cd_X11_judge_71 : ylk m_X11_judge.2.2.2.2.1 71 = some (.aload_n 0) := by decide +kernel
theorem cd_X11_judge_72 : ylk m_X11_judge.2.2.2.2.1 72 = some (.getfield 16) := by decide +kernel
theorem cd_X11_judge_75 : ylk m_X11_judge.2.2.2.2.1 75 = some (.iconst 1) := by decide +kernel
theorem cd_X11_judge_76 : ylk m_X11_judge.2.2.2.2.1 76 = some (.invokevirtual 155) := by decide +kernel
theorem cd_X11_judge_79 : ylk m_X11_judge.2.2.2.2.1 79 = some (.iinc 4 1) := by decide +kernel
theorem cd_X11_judge_82 : ylk m_X11_judge.2.2.2.2.1 82 = some (.goto (-49)) := by decide +kernel
theorem cd_X11_judge_85 : ylk m_X11_judge.2.2.2.2.1 85 = some (.bipush (-4)) := by decide +kernel
theorem cd_X11_judge_87 : ylk m_X11_judge.2.2.2.2.1 87 = some (.ireturn) := by decide +kernel
noncomputable abbrev yb_X11_judge (C : yC) : ySt → Option (Option Value × yM) := yrn m_X11_judge C
theorem en_X11_judge (n : Nat) (A : yM) (v0 : Nat) (v1 : Int32) : ycall (n + 1) 123 [.ref v0, .int v1] A = (yi (yvt [(10, 135)] (ycall n) [.ref v0, .int v1] A)).bind (fun z1 => if z1.1 = 0 then (ygR z1.2 v0 10 4 (fun a2 => yrR z1.2 a2 v1 (fun a3 => ygR z1.2 v0 10 1 (fun a4 => ygR z1.2 v0 10 0 (fun a5 => (yv (yvt [(0, 0)] (ycall n) [.ref a4, .ref a5] z1.2)).bind (fun A6 => yb_X11_judge (ycall n) (33, [some (.ref v0), none, none, some (.ref a3), some (.int (0 : Int32))], [], A6))))))) else (some (some (.int z1.1), z1.2))) := (ybig_blk 19 _).trans (z_aload_n cd_X11_judge_0 (j := 0) rfl rfl (p := 1) rfl (zgo rfl (z_iload_n cd_X11_judge_1 (j := 1) rfl rfl (p := 2) rfl (zgo rfl (z_cv1 cd_X11_judge_2 (zv (key := 129) (by decide)) cl_X11_c129 rfl rfl rfl rfl (p := 5) rfl (fun _ => (zgo rfl (z_istore_n cd_X11_judge_5 (j := 2) rfl rfl (p := 6) rfl (zgo rfl (z_iload_n cd_X11_judge_6 (j := 2) rfl rfl (p := 7) rfl (zgo rfl (z_if_eq cd_X11_judge_7 (p := 12) rfl (p2 := 10) rfl (zgo rfl (z_aload_n cd_X11_judge_12 (j := 0) rfl rfl (p := 13) rfl (zgo rfl (z_getR cd_X11_judge_13 fd_X11_28 (p := 16) rfl (fun _ => (zgo rfl (z_iload_n cd_X11_judge_16 (j := 1) rfl rfl (p := 17) rfl (zgo rfl (z_aaload cd_X11_judge_17 (p := 18) rfl (fun _ => (zgo rfl (z_astore_n cd_X11_judge_18 (j := 3) rfl rfl (p := 19) rfl (zgo rfl (z_aload_n cd_X11_judge_19 (j := 0) rfl rfl (p := 20) rfl (zgo rfl (z_getR cd_X11_judge_20 fd_X11_16 (p := 23) rfl (fun _ => (zgo rfl (z_aload_n cd_X11_judge_23 (j := 0) rfl rfl (p := 24) rfl (zgo rfl (z_getR cd_X11_judge_24 fd_X11_12 (p := 27) rfl (fun _ => (zgo rfl (z_cv0 cd_X11_judge_27 (zv (key := 171) (by decide)) cl_X11_c171 rfl rfl rfl rfl (p := 30) rfl (fun _ => (zgo rfl (z_iconst cd_X11_judge_30 ki_0 (p := 31) rfl (zgo rfl (z_istore cd_X11_judge_31 rfl (p := 33) rfl (zcut (p := 33) rfl rfl)))))))))))))))))))))))))))))) (zgo rfl (z_iload_n cd_X11_judge_10 (j := 2) rfl rfl (p := 11) rfl (zgo rfl (z_iret cd_X11_judge_11 rfl))))))))))))))))
theorem bk_X11_judge_33 (C : yC) (A : yM) (v0 : Nat) (v3 : Nat) (v4 : Int32) : yb_X11_judge C (33, [some (.ref v0), none, none, some (.ref v3), some (.int v4)], [], A) = ygI A v3 7 4 (fun x1 => if x1 ≤ v4 then (some (some (.int (-4 : Int32)), A)) else ((yi (yvt [(7, 58)] C [.ref v3, .int v4] A)).bind (fun z2 => if z2.1 = 0 then (ygR z2.2 v3 7 5 (fun a5 => yrd z2.2 a5 v4 (fun x6 => ygR z2.2 v0 10 1 (fun a7 => (yi (yvt [(0, 18)] C [.ref a7] z2.2)).bind (fun z8 => if x6 = z8.1 then (ygR z8.2 v0 10 1 (fun a9 => (yv (yvt [(0, 10)] C [.ref a9, .int (1 : Int32)] z8.2)).bind (fun A10 => yb_X11_judge C (33, [some (.ref v0), none, none, some (.ref v3), some (.int (v4 + (1 : Int32)))], [], A10)))) else (some (some (.int v4), z8.2))))))) else (ygR z2.2 v0 10 1 (fun a3 => (yv (yvt [(0, 10)] C [.ref a3, .int (1 : Int32)] z2.2)).bind (fun A4 => yb_X11_judge C (33, [some (.ref v0), none, none, some (.ref v3), some (.int (v4 + (1 : Int32)))], [], A4))))))) := (ybig_blk 23 _).trans (z_iload cd_X11_judge_33 rfl (p := 35) rfl (zgo rfl (z_aload_n cd_X11_judge_35 (j := 3) rfl rfl (p := 36) rfl (zgo rfl (z_getI cd_X11_judge_36 fd_X11_257 (p := 39) rfl (fun _ => (zgo rfl (z_ic_ge cd_X11_judge_39 (p := 85) rfl (p2 := 42) rfl (zgo rfl (z_bipush cd_X11_judge_85 kb_m4 (p := 87) rfl (zgo rfl (z_iret cd_X11_judge_87 rfl)))) (zgo rfl (z_aload_n cd_X11_judge_42 (j := 3) rfl rfl (p := 43) rfl (zgo rfl (z_iload cd_X11_judge_43 rfl (p := 45) rfl (zgo rfl (z_cv1 cd_X11_judge_45 (zv (key := 894) (by decide)) cl_X11_c894 rfl rfl rfl rfl (p := 48) rfl (fun _ => (zgo rfl (z_if_ne cd_X11_judge_48 (p := 71) rfl (p2 := 51) rfl (zgo rfl (z_aload_n cd_X11_judge_51 (j := 3) rfl rfl (p := 52) rfl (zgo rfl (z_getR cd_X11_judge_52 fd_X11_260 (p := 55) rfl (fun _ => (zgo rfl (z_iload cd_X11_judge_55 rfl (p := 57) rfl (zgo rfl (z_iaload cd_X11_judge_57 (p := 58) rfl (fun _ => (zgo rfl (z_aload_n cd_X11_judge_58 (j := 0) rfl rfl (p := 59) rfl (zgo rfl (z_getR cd_X11_judge_59 fd_X11_16 (p := 62) rfl (fun _ => (zgo rfl (z_cv1 cd_X11_judge_62 (zv (key := 423) (by decide)) cl_X11_c423 rfl rfl rfl rfl (p := 65) rfl (fun _ => (zgo rfl (z_ic_eq cd_X11_judge_65 (p := 71) rfl (p2 := 68) rfl (zgo rfl (z_aload_n cd_X11_judge_71 (j := 0) rfl rfl (p := 72) rfl (zgo rfl (z_getR cd_X11_judge_72 fd_X11_16 (p := 75) rfl (fun _ => (zgo rfl (z_iconst cd_X11_judge_75 ki_1 (p := 76) rfl (zgo rfl (z_cv0 cd_X11_judge_76 (zv (key := 465) (by decide)) cl_X11_c465 rfl rfl rfl rfl (p := 79) rfl (fun _ => (zgo rfl (z_iinc cd_X11_judge_79 ki_1 rfl rfl (p := 82) rfl (zgo rfl (z_goto cd_X11_judge_82 (p := 33) rfl (zcut (p := 33) rfl rfl))))))))))))))) (zgo rfl (z_iload cd_X11_judge_68 rfl (p := 70) rfl (zgo rfl (z_iret cd_X11_judge_70 rfl)))))))))))))))))))))))) (zgo rfl (z_aload_n cd_X11_judge_71 (j := 0) rfl rfl (p := 72) rfl (zgo rfl (z_getR cd_X11_judge_72 fd_X11_16 (p := 75) rfl (fun _ => (zgo rfl (z_iconst cd_X11_judge_75 ki_1 (p := 76) rfl (zgo rfl (z_cv0 cd_X11_judge_76 (zv (key := 465) (by decide)) cl_X11_c465 rfl rfl rfl rfl (p := 79) rfl (fun _ => (zgo rfl (z_iinc cd_X11_judge_79 ki_1 rfl rfl (p := 82) rfl (zgo rfl (z_goto cd_X11_judge_82 (p := 33) rfl (zcut (p := 33) rfl rfl))))))))))))))))))))))))))))))))
theorem cd_X11_terms_0 : ylk m_X11_terms.2.2.2.2.1 0 = some (.iload_n 1) := by decide +kernel
theorem cd_X11_terms_1 : ylk m_X11_terms.2.2.2.2.1 1 = some (.iconst 1) := by decide +kernel
theorem cd_X11_terms_2 : ylk m_X11_terms.2.2.2.2.1 2 = some (.if_icmp .lt 18) := by decide +kernel
theorem cd_X11_terms_5 : ylk m_X11_terms.2.2.2.2.1 5 = some (.iload_n 1) := by decide +kernel
theorem cd_X11_terms_6 : ylk m_X11_terms.2.2.2.2.1 6 = some (.bipush 20) := by decide +kernel
theorem cd_X11_terms_8 : ylk m_X11_terms.2.2.2.2.1 8 = some (.if_icmp .gt 12) := by decide +kernel
theorem cd_X11_terms_11 : ylk m_X11_terms.2.2.2.2.1 11 = some (.iload_n 3) := by decide +kernel
theorem cd_X11_terms_12 : ylk m_X11_terms.2.2.2.2.1 12 = some (.ifCond .lt 8) := by decide +kernel
theorem cd_X11_terms_15 : ylk m_X11_terms.2.2.2.2.1 15 = some (.iload_n 3) := by decide +kernel
theorem cd_X11_terms_16 : ylk m_X11_terms.2.2.2.2.1 16 = some (.iconst 1) := by decide +kernel
theorem cd_X11_terms_17 : ylk m_X11_terms.2.2.2.2.1 17 = some (.if_icmp .le 5) := by decide +kernel
theorem cd_X11_terms_20 : ylk m_X11_terms.2.2.2.2.1 20 = some (.iconst (-1)) := by decide +kernel
theorem cd_X11_terms_21 : ylk m_X11_terms.2.2.2.2.1 21 = some (.ireturn) := by decide +kernel
theorem cd_X11_terms_22 : ylk m_X11_terms.2.2.2.2.1 22 = some (.iload_n 2) := by decide +kernel
theorem cd_X11_terms_23 : ylk m_X11_terms.2.2.2.2.1 23 = some (.istore 4) := by decide +kernel
theorem cd_X11_terms_25 : ylk m_X11_terms.2.2.2.2.1 25 = some (.iconst 0) := by decide +kernel
theorem cd_X11_terms_26 : ylk m_X11_terms.2.2.2.2.1 26 = some (.istore 5) := by decide +kernel
theorem cd_X11_terms_28 : ylk m_X11_terms.2.2.2.2.1 28 = some (.iconst 0) := by decide +kernel
theorem cd_X11_terms_29 : ylk m_X11_terms.2.2.2.2.1 29 = some (.istore 6) := by decide +kernel
theorem cd_X11_terms_31 : ylk m_X11_terms.2.2.2.2.1 31 = some (.iload 6) := by decide +kernel
theorem cd_X11_terms_33 : ylk m_X11_terms.2.2.2.2.1 33 = some (.iload_n 1) := by decide +kernel
theorem cd_X11_terms_34 : ylk m_X11_terms.2.2.2.2.1 34 = some (.if_icmp .ge 129) := by decide +kernel
theorem cd_X11_terms_37 : ylk m_X11_terms.2.2.2.2.1 37 = some (.aload_n 0) := by decide +kernel
theorem cd_X11_terms_38 : ylk m_X11_terms.2.2.2.2.1 38 = some (.getfield 16) := by decide +kernel
theorem cd_X11_terms_41 : ylk m_X11_terms.2.2.2.2.1 41 = some (.aload_n 0) := by decide +kernel
theorem cd_X11_terms_42 : ylk m_X11_terms.2.2.2.2.1 42 = some (.getfield 12) := by decide +kernel
theorem cd_X11_terms_45 : ylk m_X11_terms.2.2.2.2.1 45 = some (.invokevirtual 57) := by decide +kernel
theorem cd_X11_terms_48 : ylk m_X11_terms.2.2.2.2.1 48 = some (.iconst 0) := by decide +kernel
theorem cd_X11_terms_49 : ylk m_X11_terms.2.2.2.2.1 49 = some (.istore 7) := by decide +kernel
theorem cd_X11_terms_51 : ylk m_X11_terms.2.2.2.2.1 51 = some (.iload 7) := by decide +kernel
theorem cd_X11_terms_53 : ylk m_X11_terms.2.2.2.2.1 53 = some (.aload_n 0) := by decide +kernel
theorem cd_X11_terms_54 : ylk m_X11_terms.2.2.2.2.1 54 = some (.getfield 16) := by decide +kernel
theorem cd_X11_terms_57 : ylk m_X11_terms.2.2.2.2.1 57 = some (.getfield 158) := by decide +kernel
theorem cd_X11_terms_60 : ylk m_X11_terms.2.2.2.2.1 60 = some (.if_icmp .ge 44) := by decide +kernel
theorem cd_X11_terms_63 : ylk m_X11_terms.2.2.2.2.1 63 = some (.iload 4) := by decide +kernel
theorem cd_X11_terms_65 : ylk m_X11_terms.2.2.2.2.1 65 = some (.ldc_w 318) := by decide +kernel
theorem cd_X11_terms_68 : ylk m_X11_terms.2.2.2.2.1 68 = some (.imul) := by decide +kernel
theorem cd_X11_terms_69 : ylk m_X11_terms.2.2.2.2.1 69 = some (.sipush 12345) := by decide +kernel
theorem cd_X11_terms_72 : ylk m_X11_terms.2.2.2.2.1 72 = some (.iadd) := by decide +kernel
theorem cd_X11_terms_73 : ylk m_X11_terms.2.2.2.2.1 73 = some (.istore 4) := by decide +kernel
theorem cd_X11_terms_75 : ylk m_X11_terms.2.2.2.2.1 75 = some (.aload_n 0) := by decide +kernel
theorem cd_X11_terms_76 : ylk m_X11_terms.2.2.2.2.1 76 = some (.getfield 16) := by decide +kernel
theorem cd_X11_terms_79 : ylk m_X11_terms.2.2.2.2.1 79 = some (.getfield 99) := by decide +kernel
theorem cd_X11_terms_82 : ylk m_X11_terms.2.2.2.2.1 82 = some (.iload 7) := by decide +kernel
theorem cd_X11_terms_84 : ylk m_X11_terms.2.2.2.2.1 84 = some (.iload 4) := by decide +kernel
theorem cd_X11_terms_86 : ylk m_X11_terms.2.2.2.2.1 86 = some (.ldc_w 319) := by decide +kernel
theorem cd_X11_terms_89 : ylk m_X11_terms.2.2.2.2.1 89 = some (.iand) := by decide +kernel
theorem cd_X11_terms_90 : ylk m_X11_terms.2.2.2.2.1 90 = some (.ldc_w 320) := by decide +kernel
theorem cd_X11_terms_93 : ylk m_X11_terms.2.2.2.2.1 93 = some (.idiv) := by decide +kernel
theorem cd_X11_terms_94 : ylk m_X11_terms.2.2.2.2.1 94 = some (.bipush 100) := by decide +kernel
theorem cd_X11_terms_96 : ylk m_X11_terms.2.2.2.2.1 96 = some (.irem) := by decide +kernel
theorem cd_X11_terms_97 : ylk m_X11_terms.2.2.2.2.1 97 = some (.iastore) := by decide +kernel
theorem cd_X11_terms_98 : ylk m_X11_terms.2.2.2.2.1 98 = some (.iinc 7 1) := by decide +kernel
theorem cd_X11_terms_101 : ylk m_X11_terms.2.2.2.2.1 101 = some (.goto (-50)) := by decide +kernel
theorem cd_X11_terms_104 : ylk m_X11_terms.2.2.2.2.1 104 = some (.aload_n 0) := by decide +kernel
theorem cd_X11_terms_105 : ylk m_X11_terms.2.2.2.2.1 105 = some (.getfield 16) := by decide +kernel
theorem cd_X11_terms_108 : ylk m_X11_terms.2.2.2.2.1 108 = some (.iconst 5) := by decide +kernel
theorem cd_X11_terms_109 : ylk m_X11_terms.2.2.2.2.1 109 = some (.invokevirtual 155) := by decide +kernel
theorem cd_X11_terms_112 : ylk m_X11_terms.2.2.2.2.1 112 = some (.iload_n 3) := by decide +kernel
theorem cd_X11_terms_113 : ylk m_X11_terms.2.2.2.2.1 113 = some (.ifCond .ne 18) := by decide +kernel
theorem cd_X11_terms_116 : ylk m_X11_terms.2.2.2.2.1 116 = some (.iload 5) := by decide +kernel
theorem cd_X11_terms_118 : ylk m_X11_terms.2.2.2.2.1 118 = some (.aload_n 0) := by decide +kernel
theorem cd_X11_terms_119 : ylk m_X11_terms.2.2.2.2.1 119 = some (.getfield 16) := by decide +kernel
theorem cd_X11_terms_122 : ylk m_X11_terms.2.2.2.2.1 122 = some (.invokevirtual 141) := by decide +kernel
theorem cd_X11_terms_125 : ylk m_X11_terms.2.2.2.2.1 125 = some (.iadd) := by decide +kernel
theorem cd_X11_terms_126 : ylk m_X11_terms.2.2.2.2.1 126 = some (.istore 5) := by decide +kernel
theorem cd_X11_terms_128 : ylk m_X11_terms.2.2.2.2.1 128 = some (.goto 29) := by decide +kernel
theorem cd_X11_terms_131 : ylk m_X11_terms.2.2.2.2.1 131 = some (.aload_n 0) := by decide +kernel
theorem cd_X11_terms_132 : ylk m_X11_terms.2.2.2.2.1 132 = some (.getfield 16) := by decide +kernel
theorem cd_X11_terms_135 : ylk m_X11_terms.2.2.2.2.1 135 = some (.invokevirtual 226) := by decide +kernel
theorem cd_X11_terms_138 : ylk m_X11_terms.2.2.2.2.1 138 = some (.istore 7) := by decide +kernel
theorem cd_X11_terms_140 : ylk m_X11_terms.2.2.2.2.1 140 = some (.iload 5) := by decide +kernel
theorem cd_X11_terms_142 : ylk m_X11_terms.2.2.2.2.1 142 = some (.iload 7) := by decide +kernel
theorem cd_X11_terms_144 : ylk m_X11_terms.2.2.2.2.1 144 = some (.ifCond .ge 8) := by decide +kernel
theorem cd_X11_terms_147 : ylk m_X11_terms.2.2.2.2.1 147 = some (.bipush 9) := by decide +kernel
theorem cd_X11_terms_149 : ylk m_X11_terms.2.2.2.2.1 149 = some (.goto 5) := by decide +kernel
theorem cd_X11_terms_152 : ylk m_X11_terms.2.2.2.2.1 152 = some (.iload 7) := by decide +kernel
theorem cd_X11_terms_154 : ylk m_X11_terms.2.2.2.2.1 154 = some (.iadd) := by decide +kernel
theorem cd_X11_terms_155 : ylk m_X11_terms.2.2.2.2.1 155 = some (.istore 5) := by decide +kernel
theorem cd_X11_terms_157 : ylk m_X11_terms.2.2.2.2.1 157 = some (.iinc 6 1) := by decide +kernel
theorem cd_X11_terms_160 : ylk m_X11_terms.2.2.2.2.1 160 = some (.goto (-129)) := by decide +kernel
theorem cd_X11_terms_163 : ylk m_X11_terms.2.2.2.2.1 163 = some (.iload 5) := by decide +kernel
theorem cd_X11_terms_165 : ylk m_X11_terms.2.2.2.2.1 165 = some (.ireturn) := by decide +kernel
noncomputable abbrev yb_X11_terms (C : yC) : ySt → Option (Option Value × yM) := yrn m_X11_terms C
theorem en_X11_terms (n : Nat) (A : yM) (v0 : Nat) (v1 : Int32) (v2 : Int32) (v3 : Int32) : ycall (n + 1) 124 [.ref v0, .int v1, .int v2, .int v3] A = if v1 < (1 : Int32) then (some (some (.int (-1 : Int32)), A)) else (if (20 : Int32) < v1 then (some (some (.int (-1 : Int32)), A)) else (if v3 < 0 then (some (some (.int (-1 : Int32)), A)) else (if v3 ≤ (1 : Int32) then (yb_X11_terms (ycall n) (31, [some (.ref v0), some (.int v1), none, some (.int v3), some (.int v2), some (.int (0 : Int32)), some (.int (0 : Int32)), none], [], A)) else (some (some (.int (-1 : Int32)), A))))) := (ybig_blk 18 _).trans (z_iload_n cd_X11_terms_0 (j := 1) rfl rfl (p := 1) rfl (zgo rfl (z_iconst cd_X11_terms_1 ki_1 (p := 2) rfl (zgo rfl (z_ic_lt cd_X11_terms_2 (p := 20) rfl (p2 := 5) rfl (zgo rfl (z_iconst cd_X11_terms_20 ki_m1 (p := 21) rfl (zgo rfl (z_iret cd_X11_terms_21 rfl)))) (zgo rfl (z_iload_n cd_X11_terms_5 (j := 1) rfl rfl (p := 6) rfl (zgo rfl (z_bipush cd_X11_terms_6 kb_20 (p := 8) rfl (zgo rfl (z_ic_gt cd_X11_terms_8 (p := 20) rfl (p2 := 11) rfl (zgo rfl (z_iconst cd_X11_terms_20 ki_m1 (p := 21) rfl (zgo rfl (z_iret cd_X11_terms_21 rfl)))) (zgo rfl (z_iload_n cd_X11_terms_11 (j := 3) rfl rfl (p := 12) rfl (zgo rfl (z_if_lt cd_X11_terms_12 (p := 20) rfl (p2 := 15) rfl (zgo rfl (z_iconst cd_X11_terms_20 ki_m1 (p := 21) rfl (zgo rfl (z_iret cd_X11_terms_21 rfl)))) (zgo rfl (z_iload_n cd_X11_terms_15 (j := 3) rfl rfl (p := 16) rfl (zgo rfl (z_iconst cd_X11_terms_16 ki_1 (p := 17) rfl (zgo rfl (z_ic_le cd_X11_terms_17 (p := 22) rfl (p2 := 20) rfl (zgo rfl (z_iload_n cd_X11_terms_22 (j := 2) rfl rfl (p := 23) rfl (zgo rfl (z_istore cd_X11_terms_23 rfl (p := 25) rfl (zgo rfl (z_iconst cd_X11_terms_25 ki_0 (p := 26) rfl (zgo rfl (z_istore cd_X11_terms_26 rfl (p := 28) rfl (zgo rfl (z_iconst cd_X11_terms_28 ki_0 (p := 29) rfl (zgo rfl (z_istore cd_X11_terms_29 rfl (p := 31) rfl (zcut (p := 31) rfl rfl))))))))))))) (zgo rfl (z_iconst cd_X11_terms_20 ki_m1 (p := 21) rfl (zgo rfl (z_iret cd_X11_terms_21 rfl)))))))))))))))))))))))))
theorem bk_X11_terms_31 (C : yC) (A : yM) (v0 : Nat) (v1 : Int32) (v3 : Int32) (v4 : Int32) (v5 : Int32) (v6 : Int32) : yb_X11_terms C (31, [some (.ref v0), some (.int v1), none, some (.int v3), some (.int v4), some (.int v5), some (.int v6), none], [], A) = if v1 ≤ v6 then (some (some (.int v5), A)) else (ygR A v0 10 1 (fun a1 => ygR A v0 10 0 (fun a2 => (yv (yvt [(0, 0)] C [.ref a1, .ref a2] A)).bind (fun A3 => yb_X11_terms C (51, [some (.ref v0), some (.int v1), none, some (.int v3), some (.int v4), some (.int v5), some (.int v6), some (.int (0 : Int32))], [], A3))))) := (ybig_blk 11 _).trans (z_iload cd_X11_terms_31 rfl (p := 33) rfl (zgo rfl (z_iload_n cd_X11_terms_33 (j := 1) rfl rfl (p := 34) rfl (zgo rfl (z_ic_ge cd_X11_terms_34 (p := 163) rfl (p2 := 37) rfl (zgo rfl (z_iload cd_X11_terms_163 rfl (p := 165) rfl (zgo rfl (z_iret cd_X11_terms_165 rfl)))) (zgo rfl (z_aload_n cd_X11_terms_37 (j := 0) rfl rfl (p := 38) rfl (zgo rfl (z_getR cd_X11_terms_38 fd_X11_16 (p := 41) rfl (fun _ => (zgo rfl (z_aload_n cd_X11_terms_41 (j := 0) rfl rfl (p := 42) rfl (zgo rfl (z_getR cd_X11_terms_42 fd_X11_12 (p := 45) rfl (fun _ => (zgo rfl (z_cv0 cd_X11_terms_45 (zv (key := 171) (by decide)) cl_X11_c171 rfl rfl rfl rfl (p := 48) rfl (fun _ => (zgo rfl (z_iconst cd_X11_terms_48 ki_0 (p := 49) rfl (zgo rfl (z_istore cd_X11_terms_49 rfl (p := 51) rfl (zcut (p := 51) rfl rfl)))))))))))))))))))))))
theorem bk_X11_terms_51 (C : yC) (A : yM) (v0 : Nat) (v1 : Int32) (v3 : Int32) (v4 : Int32) (v5 : Int32) (v6 : Int32) (v7 : Int32) : yb_X11_terms C (51, [some (.ref v0), some (.int v1), none, some (.int v3), some (.int v4), some (.int v5), some (.int v6), some (.int v7)], [], A) = ygR A v0 10 1 (fun a1 => ygI A a1 0 5 (fun x2 => if x2 ≤ v7 then (ygR A v0 10 1 (fun a3 => (yv (yvt [(0, 10)] C [.ref a3, .int (5 : Int32)] A)).bind (fun A4 => if v3 = 0 then (ygR A4 v0 10 1 (fun a7 => (yi (yvt [(0, 18)] C [.ref a7] A4)).bind (fun z8 => yb_X11_terms C (31, [some (.ref v0), some (.int v1), none, some (.int v3), some (.int v4), some (.int (v5 + z8.1)), some (.int (v6 + (1 : Int32))), none], [], z8.2)))) else (ygR A4 v0 10 1 (fun a5 => (yi (yvt [(0, 32)] C [.ref a5] A4)).bind (fun z6 => if 0 ≤ z6.1 then (yb_X11_terms C (31, [some (.ref v0), some (.int v1), none, some (.int v3), some (.int v4), some (.int (v5 + z6.1)), some (.int (v6 + (1 : Int32))), none], [], z6.2)) else (yb_X11_terms C (31, [some (.ref v0), some (.int v1), none, some (.int v3), some (.int v4), some (.int (v5 + (9 : Int32))), some (.int (v6 + (1 : Int32))), none], [], z6.2)))))))) else (ygR A v0 10 1 (fun a9 => ygR A a9 0 8 (fun a10 => if (65536 : Int32) = 0 then none else (if (100 : Int32) = 0 then none else (ywr A a10 v7 (((((v4 * (1103515245 : Int32)) + (12345 : Int32)) &&& (2147483647 : Int32)) / (65536 : Int32)) - ((((v4 * (1103515245 : Int32)) + (12345 : Int32)) &&& (2147483647 : Int32)) / (65536 : Int32)) / (100 : Int32) * (100 : Int32)) (fun A11 => yb_X11_terms C (51, [some (.ref v0), some (.int v1), none, some (.int v3), some (.int ((v4 * (1103515245 : Int32)) + (12345 : Int32))), some (.int v5), some (.int v6), some (.int (v7 + (1 : Int32)))], [], A11))))))))) := (ybig_blk 26 _).trans (z_iload cd_X11_terms_51 rfl (p := 53) rfl (zgo rfl (z_aload_n cd_X11_terms_53 (j := 0) rfl rfl (p := 54) rfl (zgo rfl (z_getR cd_X11_terms_54 fd_X11_16 (p := 57) rfl (fun _ => (zgo rfl (z_getI cd_X11_terms_57 fd_X11_158 (p := 60) rfl (fun _ => (zgo rfl (z_ic_ge cd_X11_terms_60 (p := 104) rfl (p2 := 63) rfl (zgo rfl (z_aload_n cd_X11_terms_104 (j := 0) rfl rfl (p := 105) rfl (zgo rfl (z_getR cd_X11_terms_105 fd_X11_16 (p := 108) rfl (fun _ => (zgo rfl (z_iconst cd_X11_terms_108 ki_5 (p := 109) rfl (zgo rfl (z_cv0 cd_X11_terms_109 (zv (key := 465) (by decide)) cl_X11_c465 rfl rfl rfl rfl (p := 112) rfl (fun _ => (zgo rfl (z_iload_n cd_X11_terms_112 (j := 3) rfl rfl (p := 113) rfl (zgo rfl (z_if_ne cd_X11_terms_113 (p := 131) rfl (p2 := 116) rfl (zgo rfl (z_iload cd_X11_terms_116 rfl (p := 118) rfl (zgo rfl (z_aload_n cd_X11_terms_118 (j := 0) rfl rfl (p := 119) rfl (zgo rfl (z_getR cd_X11_terms_119 fd_X11_16 (p := 122) rfl (fun _ => (zgo rfl (z_cv1 cd_X11_terms_122 (zv (key := 423) (by decide)) cl_X11_c423 rfl rfl rfl rfl (p := 125) rfl (fun _ => (zgo rfl (z_iadd cd_X11_terms_125 (p := 126) rfl (zgo rfl (z_istore cd_X11_terms_126 rfl (p := 128) rfl (zgo rfl (z_goto cd_X11_terms_128 (p := 157) rfl (zgo rfl (z_iinc cd_X11_terms_157 ki_1 rfl rfl (p := 160) rfl (zgo rfl (z_goto cd_X11_terms_160 (p := 31) rfl (zcut (p := 31) rfl rfl))))))))))))))))))))) (zgo rfl (z_aload_n cd_X11_terms_131 (j := 0) rfl rfl (p := 132) rfl (zgo rfl (z_getR cd_X11_terms_132 fd_X11_16 (p := 135) rfl (fun _ => (zgo rfl (z_cv1 cd_X11_terms_135 (zv (key := 678) (by decide)) cl_X11_c678 rfl rfl rfl rfl (p := 138) rfl (fun _ => (zgo rfl (z_istore cd_X11_terms_138 rfl (p := 140) rfl (zgo rfl (z_iload cd_X11_terms_140 rfl (p := 142) rfl (zgo rfl (z_iload cd_X11_terms_142 rfl (p := 144) rfl (zgo rfl (z_if_ge cd_X11_terms_144 (p := 152) rfl (p2 := 147) rfl (zgo rfl (z_iload cd_X11_terms_152 rfl (p := 154) rfl (zgo rfl (z_iadd cd_X11_terms_154 (p := 155) rfl (zgo rfl (z_istore cd_X11_terms_155 rfl (p := 157) rfl (zgo rfl (z_iinc cd_X11_terms_157 ki_1 rfl rfl (p := 160) rfl (zgo rfl (z_goto cd_X11_terms_160 (p := 31) rfl (zcut (p := 31) rfl rfl))))))))))) (zgo rfl (z_bipush cd_X11_terms_147 kb_9 (p := 149) rfl (zgo rfl (z_goto cd_X11_terms_149 (p := 154) rfl (zgo rfl (z_iadd cd_X11_terms_154 (p := 155) rfl (zgo rfl (z_istore cd_X11_terms_155 rfl (p := 157) rfl (zgo rfl (z_iinc cd_X11_terms_157 ki_1 rfl rfl (p := 160) rfl (zgo rfl (z_goto cd_X11_terms_160 (p := 31) rfl (zcut (p := 31) rfl rfl))))))))))))))))))))))))))))))))))))))))))) (zgo rfl (z_iload cd_X11_terms_63 rfl (p := 65) rfl (zgo rfl (z_ldc_w cd_X11_terms_65 ct_X11_318 (p := 68) rfl (zgo rfl (z_imul cd_X11_terms_68 (p := 69) rfl (zgo rfl (z_sipush cd_X11_terms_69 ks_12345 (p := 72) rfl (zgo rfl (z_iadd cd_X11_terms_72 (p := 73) rfl (zgo rfl (z_istore cd_X11_terms_73 rfl (p := 75) rfl (zgo rfl (z_aload_n cd_X11_terms_75 (j := 0) rfl rfl (p := 76) rfl (zgo rfl (z_getR cd_X11_terms_76 fd_X11_16 (p := 79) rfl (fun _ => (zgo rfl (z_getR cd_X11_terms_79 fd_X11_99 (p := 82) rfl (fun _ => (zgo rfl (z_iload cd_X11_terms_82 rfl (p := 84) rfl (zgo rfl (z_iload cd_X11_terms_84 rfl (p := 86) rfl (zgo rfl (z_ldc_w cd_X11_terms_86 ct_X11_319 (p := 89) rfl (zgo rfl (z_iand cd_X11_terms_89 (p := 90) rfl (zgo rfl (z_ldc_w cd_X11_terms_90 ct_X11_320 (p := 93) rfl (zgo rfl (z_idiv cd_X11_terms_93 (p := 94) rfl (zgo rfl (z_bipush cd_X11_terms_94 kb_100 (p := 96) rfl (zgo rfl (z_irem cd_X11_terms_96 (p := 97) rfl (zgo rfl (z_iastore cd_X11_terms_97 (p := 98) rfl (fun _ => (zgo rfl (z_iinc cd_X11_terms_98 ki_1 rfl rfl (p := 101) rfl (zgo rfl (z_goto cd_X11_terms_101 (p := 51) rfl (zcut (p := 51) rfl rfl)))))))))))))))))))))))))))))))))))))))))))))))))))))))
theorem cd_X11_image_0 : ylk m_X11_image.2.2.2.2.1 0 = some (.aload_n 0) := by decide +kernel
theorem cd_X11_image_1 : ylk m_X11_image.2.2.2.2.1 1 = some (.getfield 19) := by decide +kernel
theorem cd_X11_image_4 : ylk m_X11_image.2.2.2.2.1 4 = some (.aload_n 0) := by decide +kernel
theorem cd_X11_image_5 : ylk m_X11_image.2.2.2.2.1 5 = some (.getfield 12) := by decide +kernel
theorem cd_X11_image_8 : ylk m_X11_image.2.2.2.2.1 8 = some (.invokevirtual 57) := by decide +kernel
theorem cd_X11_image_11 : ylk m_X11_image.2.2.2.2.1 11 = some (.aload_n 0) := by decide +kernel
theorem cd_X11_image_12 : ylk m_X11_image.2.2.2.2.1 12 = some (.iconst 1) := by decide +kernel
theorem cd_X11_image_13 : ylk m_X11_image.2.2.2.2.1 13 = some (.putfield 22) := by decide +kernel
theorem cd_X11_image_16 : ylk m_X11_image.2.2.2.2.1 16 = some (.aload_n 0) := by decide +kernel
theorem cd_X11_image_17 : ylk m_X11_image.2.2.2.2.1 17 = some (.getfield 12) := by decide +kernel
theorem cd_X11_image_20 : ylk m_X11_image.2.2.2.2.1 20 = some (.getfield 287) := by decide +kernel
theorem cd_X11_image_23 : ylk m_X11_image.2.2.2.2.1 23 = some (.ireturn) := by decide +kernel
noncomputable abbrev yb_X11_image (C : yC) : ySt → Option (Option Value × yM) := yrn m_X11_image C
theorem en_X11_image (n : Nat) (A : yM) (v0 : Nat) : ycall (n + 1) 125 [.ref v0] A = ygR A v0 10 2 (fun a1 => ygR A v0 10 0 (fun a2 => (yv (yvt [(0, 0)] (ycall n) [.ref a1, .ref a2] A)).bind (fun A3 => if (1 : Int32) = 0 ∨ (1 : Int32) = 1 then (ypI A3 v0 10 3 (1 : Int32) (fun A4 => ygR A4 v0 10 0 (fun a5 => ygI A4 a5 0 12 (fun x6 => some (some (.int x6), A4))))) else none))) := (ybig_blk 13 _).trans (z_aload_n cd_X11_image_0 (j := 0) rfl rfl (p := 1) rfl (zgo rfl (z_getR cd_X11_image_1 fd_X11_19 (p := 4) rfl (fun _ => (zgo rfl (z_aload_n cd_X11_image_4 (j := 0) rfl rfl (p := 5) rfl (zgo rfl (z_getR cd_X11_image_5 fd_X11_12 (p := 8) rfl (fun _ => (zgo rfl (z_cv0 cd_X11_image_8 (zv (key := 171) (by decide)) cl_X11_c171 rfl rfl rfl rfl (p := 11) rfl (fun _ => (zgo rfl (z_aload_n cd_X11_image_11 (j := 0) rfl rfl (p := 12) rfl (zgo rfl (z_iconst cd_X11_image_12 ki_1 (p := 13) rfl (zgo rfl (z_putZ cd_X11_image_13 fd_X11_22 (p := 16) rfl (fun _ => (zgo rfl (z_aload_n cd_X11_image_16 (j := 0) rfl rfl (p := 17) rfl (zgo rfl (z_getR cd_X11_image_17 fd_X11_12 (p := 20) rfl (fun _ => (zgo rfl (z_getI cd_X11_image_20 fd_X11_287 (p := 23) rfl (fun _ => (zgo rfl (z_iret cd_X11_image_23 rfl)))))))))))))))))))))))))))))
theorem cd_X11_restore_0 : ylk m_X11_restore.2.2.2.2.1 0 = some (.aload_n 0) := by decide +kernel
theorem cd_X11_restore_1 : ylk m_X11_restore.2.2.2.2.1 1 = some (.getfield 22) := by decide +kernel
theorem cd_X11_restore_4 : ylk m_X11_restore.2.2.2.2.1 4 = some (.ifCond .ne 6) := by decide +kernel
theorem cd_X11_restore_7 : ylk m_X11_restore.2.2.2.2.1 7 = some (.bipush (-3)) := by decide +kernel
theorem cd_X11_restore_9 : ylk m_X11_restore.2.2.2.2.1 9 = some (.ireturn) := by decide +kernel
theorem cd_X11_restore_10 : ylk m_X11_restore.2.2.2.2.1 10 = some (.aload_n 0) := by decide +kernel
theorem cd_X11_restore_11 : ylk m_X11_restore.2.2.2.2.1 11 = some (.getfield 12) := by decide +kernel
theorem cd_X11_restore_14 : ylk m_X11_restore.2.2.2.2.1 14 = some (.aload_n 0) := by decide +kernel
theorem cd_X11_restore_15 : ylk m_X11_restore.2.2.2.2.1 15 = some (.getfield 19) := by decide +kernel
theorem cd_X11_restore_18 : ylk m_X11_restore.2.2.2.2.1 18 = some (.invokevirtual 57) := by decide +kernel
theorem cd_X11_restore_21 : ylk m_X11_restore.2.2.2.2.1 21 = some (.aload_n 0) := by decide +kernel
theorem cd_X11_restore_22 : ylk m_X11_restore.2.2.2.2.1 22 = some (.getfield 12) := by decide +kernel
theorem cd_X11_restore_25 : ylk m_X11_restore.2.2.2.2.1 25 = some (.getfield 287) := by decide +kernel
theorem cd_X11_restore_28 : ylk m_X11_restore.2.2.2.2.1 28 = some (.ireturn) := by decide +kernel
noncomputable abbrev yb_X11_restore (C : yC) : ySt → Option (Option Value × yM) := yrn m_X11_restore C
theorem en_X11_restore (n : Nat) (A : yM) (v0 : Nat) : ycall (n + 1) 126 [.ref v0] A = ygI A v0 10 3 (fun x1 => if x1 = 0 then (some (some (.int (-3 : Int32)), A)) else (ygR A v0 10 0 (fun a2 => ygR A v0 10 2 (fun a3 => (yv (yvt [(0, 0)] (ycall n) [.ref a2, .ref a3] A)).bind (fun A4 => ygR A4 v0 10 0 (fun a5 => ygI A4 a5 0 12 (fun x6 => some (some (.int x6), A4)))))))) := (ybig_blk 13 _).trans (z_aload_n cd_X11_restore_0 (j := 0) rfl rfl (p := 1) rfl (zgo rfl (z_getZ cd_X11_restore_1 fd_X11_22 (p := 4) rfl (fun _ => (zgo rfl (z_if_ne cd_X11_restore_4 (p := 10) rfl (p2 := 7) rfl (zgo rfl (z_bipush cd_X11_restore_7 kb_m3 (p := 9) rfl (zgo rfl (z_iret cd_X11_restore_9 rfl)))) (zgo rfl (z_aload_n cd_X11_restore_10 (j := 0) rfl rfl (p := 11) rfl (zgo rfl (z_getR cd_X11_restore_11 fd_X11_12 (p := 14) rfl (fun _ => (zgo rfl (z_aload_n cd_X11_restore_14 (j := 0) rfl rfl (p := 15) rfl (zgo rfl (z_getR cd_X11_restore_15 fd_X11_19 (p := 18) rfl (fun _ => (zgo rfl (z_cv0 cd_X11_restore_18 (zv (key := 171) (by decide)) cl_X11_c171 rfl rfl rfl rfl (p := 21) rfl (fun _ => (zgo rfl (z_aload_n cd_X11_restore_21 (j := 0) rfl rfl (p := 22) rfl (zgo rfl (z_getR cd_X11_restore_22 fd_X11_12 (p := 25) rfl (fun _ => (zgo rfl (z_getI cd_X11_restore_25 fd_X11_287 (p := 28) rfl (fun _ => (zgo rfl (z_iret cd_X11_restore_28 rfl)))))))))))))))))))))))))))))
theorem cd_X11_count_0 : ylk m_X11_count.2.2.2.2.1 0 = some (.iload_n 1) := by decide +kernel
theorem cd_X11_count_1 : ylk m_X11_count.2.2.2.2.1 1 = some (.tableswitch 99 0 6 #[43, 51, 59, 67, 75, 83, 91]) := by decide +kernel
theorem cd_X11_count_44 : ylk m_X11_count.2.2.2.2.1 44 = some (.aload_n 0) := by decide +kernel
theorem cd_X11_count_45 : ylk m_X11_count.2.2.2.2.1 45 = some (.getfield 12) := by decide +kernel
theorem cd_X11_count_48 : ylk m_X11_count.2.2.2.2.1 48 = some (.getfield 244) := by decide +kernel
theorem cd_X11_count_51 : ylk m_X11_count.2.2.2.2.1 51 = some (.ireturn) := by decide +kernel
theorem cd_X11_count_52 : ylk m_X11_count.2.2.2.2.1 52 = some (.aload_n 0) := by decide +kernel
theorem cd_X11_count_53 : ylk m_X11_count.2.2.2.2.1 53 = some (.getfield 12) := by decide +kernel
theorem cd_X11_count_56 : ylk m_X11_count.2.2.2.2.1 56 = some (.getfield 158) := by decide +kernel
theorem cd_X11_count_59 : ylk m_X11_count.2.2.2.2.1 59 = some (.ireturn) := by decide +kernel
theorem cd_X11_count_60 : ylk m_X11_count.2.2.2.2.1 60 = some (.aload_n 0) := by decide +kernel
theorem cd_X11_count_61 : ylk m_X11_count.2.2.2.2.1 61 = some (.getfield 12) := by decide +kernel
theorem cd_X11_count_64 : ylk m_X11_count.2.2.2.2.1 64 = some (.getfield 287) := by decide +kernel
theorem cd_X11_count_67 : ylk m_X11_count.2.2.2.2.1 67 = some (.ireturn) := by decide +kernel
theorem cd_X11_count_68 : ylk m_X11_count.2.2.2.2.1 68 = some (.aload_n 0) := by decide +kernel
theorem cd_X11_count_69 : ylk m_X11_count.2.2.2.2.1 69 = some (.getfield 12) := by decide +kernel
theorem cd_X11_count_72 : ylk m_X11_count.2.2.2.2.1 72 = some (.getfield 321) := by decide +kernel
theorem cd_X11_count_75 : ylk m_X11_count.2.2.2.2.1 75 = some (.ireturn) := by decide +kernel
theorem cd_X11_count_76 : ylk m_X11_count.2.2.2.2.1 76 = some (.aload_n 0) := by decide +kernel
theorem cd_X11_count_77 : ylk m_X11_count.2.2.2.2.1 77 = some (.getfield 12) := by decide +kernel
theorem cd_X11_count_80 : ylk m_X11_count.2.2.2.2.1 80 = some (.getfield 324) := by decide +kernel
theorem cd_X11_count_83 : ylk m_X11_count.2.2.2.2.1 83 = some (.ireturn) := by decide +kernel
theorem cd_X11_count_84 : ylk m_X11_count.2.2.2.2.1 84 = some (.aload_n 0) := by decide +kernel
theorem cd_X11_count_85 : ylk m_X11_count.2.2.2.2.1 85 = some (.getfield 12) := by decide +kernel
theorem cd_X11_count_88 : ylk m_X11_count.2.2.2.2.1 88 = some (.invokevirtual 315) := by decide +kernel
theorem cd_X11_count_91 : ylk m_X11_count.2.2.2.2.1 91 = some (.ireturn) := by decide +kernel
theorem cd_X11_count_92 : ylk m_X11_count.2.2.2.2.1 92 = some (.aload_n 0) := by decide +kernel
theorem cd_X11_count_93 : ylk m_X11_count.2.2.2.2.1 93 = some (.getfield 12) := by decide +kernel
theorem cd_X11_count_96 : ylk m_X11_count.2.2.2.2.1 96 = some (.invokevirtual 141) := by decide +kernel
theorem cd_X11_count_99 : ylk m_X11_count.2.2.2.2.1 99 = some (.ireturn) := by decide +kernel
theorem cd_X11_count_100 : ylk m_X11_count.2.2.2.2.1 100 = some (.iconst (-1)) := by decide +kernel
theorem cd_X11_count_101 : ylk m_X11_count.2.2.2.2.1 101 = some (.ireturn) := by decide +kernel
noncomputable abbrev yb_X11_count (C : yC) : ySt → Option (Option Value × yM) := yrn m_X11_count C
theorem en_X11_count (n : Nat) (A : yM) (v0 : Nat) (v1 : Int32) : ycall (n + 1) 127 [.ref v0, .int v1] A = (if v1 = (0 : Int32) then (ygR A v0 10 0 (fun a13 => ygI A a13 0 1 (fun x14 => some (some (.int x14), A)))) else (if v1 = (1 : Int32) then (ygR A v0 10 0 (fun a11 => ygI A a11 0 5 (fun x12 => some (some (.int x12), A)))) else (if v1 = (2 : Int32) then (ygR A v0 10 0 (fun a9 => ygI A a9 0 12 (fun x10 => some (some (.int x10), A)))) else (if v1 = (3 : Int32) then (ygR A v0 10 0 (fun a7 => ygI A a7 0 4 (fun x8 => some (some (.int x8), A)))) else (if v1 = (4 : Int32) then (ygR A v0 10 0 (fun a5 => ygI A a5 0 11 (fun x6 => some (some (.int x6), A)))) else (if v1 = (5 : Int32) then (ygR A v0 10 0 (fun a3 => (yi (yvt [(0, 19)] (ycall n) [.ref a3] A)).bind (fun z4 => some (some (.int z4.1), z4.2)))) else (if v1 = (6 : Int32) then (ygR A v0 10 0 (fun a1 => (yi (yvt [(0, 18)] (ycall n) [.ref a1] A)).bind (fun z2 => some (some (.int z2.1), z2.2)))) else (some (some (.int (-1 : Int32)), A))))))))) := (ybig_blk 7 _).trans (z_iload_n cd_X11_count_0 (j := 1) rfl rfl (p := 1) rfl (zgo rfl (z_sw cd_X11_count_1 (p := 100) rfl (ps := [(0, 44), (1, 52), (2, 60), (3, 68), (4, 76), (5, 84), (6, 92)]) rfl (z_swc ki_0 (zgo rfl (z_aload_n cd_X11_count_44 (j := 0) rfl rfl (p := 45) rfl (zgo rfl (z_getR cd_X11_count_45 fd_X11_12 (p := 48) rfl (fun _ => (zgo rfl (z_getI cd_X11_count_48 fd_X11_244 (p := 51) rfl (fun _ => (zgo rfl (z_iret cd_X11_count_51 rfl)))))))))) (z_swc ki_1 (zgo rfl (z_aload_n cd_X11_count_52 (j := 0) rfl rfl (p := 53) rfl (zgo rfl (z_getR cd_X11_count_53 fd_X11_12 (p := 56) rfl (fun _ => (zgo rfl (z_getI cd_X11_count_56 fd_X11_158 (p := 59) rfl (fun _ => (zgo rfl (z_iret cd_X11_count_59 rfl)))))))))) (z_swc ki_2 (zgo rfl (z_aload_n cd_X11_count_60 (j := 0) rfl rfl (p := 61) rfl (zgo rfl (z_getR cd_X11_count_61 fd_X11_12 (p := 64) rfl (fun _ => (zgo rfl (z_getI cd_X11_count_64 fd_X11_287 (p := 67) rfl (fun _ => (zgo rfl (z_iret cd_X11_count_67 rfl)))))))))) (z_swc ki_3 (zgo rfl (z_aload_n cd_X11_count_68 (j := 0) rfl rfl (p := 69) rfl (zgo rfl (z_getR cd_X11_count_69 fd_X11_12 (p := 72) rfl (fun _ => (zgo rfl (z_getI cd_X11_count_72 fd_X11_321 (p := 75) rfl (fun _ => (zgo rfl (z_iret cd_X11_count_75 rfl)))))))))) (z_swc ki_4 (zgo rfl (z_aload_n cd_X11_count_76 (j := 0) rfl rfl (p := 77) rfl (zgo rfl (z_getR cd_X11_count_77 fd_X11_12 (p := 80) rfl (fun _ => (zgo rfl (z_getI cd_X11_count_80 fd_X11_324 (p := 83) rfl (fun _ => (zgo rfl (z_iret cd_X11_count_83 rfl)))))))))) (z_swc ki_5 (zgo rfl (z_aload_n cd_X11_count_84 (j := 0) rfl rfl (p := 85) rfl (zgo rfl (z_getR cd_X11_count_85 fd_X11_12 (p := 88) rfl (fun _ => (zgo rfl (z_cv1 cd_X11_count_88 (zv (key := 945) (by decide)) cl_X11_c945 rfl rfl rfl rfl (p := 91) rfl (fun _ => (zgo rfl (z_iret cd_X11_count_91 rfl)))))))))) (z_swc ki_6 (zgo rfl (z_aload_n cd_X11_count_92 (j := 0) rfl rfl (p := 93) rfl (zgo rfl (z_getR cd_X11_count_93 fd_X11_12 (p := 96) rfl (fun _ => (zgo rfl (z_cv1 cd_X11_count_96 (zv (key := 423) (by decide)) cl_X11_c423 rfl rfl rfl rfl (p := 99) rfl (fun _ => (zgo rfl (z_iret cd_X11_count_99 rfl)))))))))) (z_swn (zgo rfl (z_iconst cd_X11_count_100 ki_m1 (p := 101) rfl (zgo rfl (z_iret cd_X11_count_101 rfl)))))))))))))))
theorem cd_X11_keep_0 : ylk m_X11_keep.2.2.2.2.1 0 = some (.iload_n 1) := by decide +kernel
theorem cd_X11_keep_1 : ylk m_X11_keep.2.2.2.2.1 1 = some (.invokestatic 266) := by decide +kernel
theorem cd_X11_keep_4 : ylk m_X11_keep.2.2.2.2.1 4 = some (.ifCond .eq 12) := by decide +kernel
theorem cd_X11_keep_7 : ylk m_X11_keep.2.2.2.2.1 7 = some (.iload_n 2) := by decide +kernel
theorem cd_X11_keep_8 : ylk m_X11_keep.2.2.2.2.1 8 = some (.ifCond .lt 8) := by decide +kernel
theorem cd_X11_keep_11 : ylk m_X11_keep.2.2.2.2.1 11 = some (.iload_n 2) := by decide +kernel
theorem cd_X11_keep_12 : ylk m_X11_keep.2.2.2.2.1 12 = some (.iconst 1) := by decide +kernel
theorem cd_X11_keep_13 : ylk m_X11_keep.2.2.2.2.1 13 = some (.if_icmp .le 5) := by decide +kernel
theorem cd_X11_keep_16 : ylk m_X11_keep.2.2.2.2.1 16 = some (.iconst (-1)) := by decide +kernel
theorem cd_X11_keep_17 : ylk m_X11_keep.2.2.2.2.1 17 = some (.ireturn) := by decide +kernel
theorem cd_X11_keep_18 : ylk m_X11_keep.2.2.2.2.1 18 = some (.iload_n 2) := by decide +kernel
theorem cd_X11_keep_19 : ylk m_X11_keep.2.2.2.2.1 19 = some (.ifCond .ne 14) := by decide +kernel
theorem cd_X11_keep_22 : ylk m_X11_keep.2.2.2.2.1 22 = some (.aload_n 0) := by decide +kernel
theorem cd_X11_keep_23 : ylk m_X11_keep.2.2.2.2.1 23 = some (.getfield 28) := by decide +kernel
theorem cd_X11_keep_26 : ylk m_X11_keep.2.2.2.2.1 26 = some (.iload_n 1) := by decide +kernel
theorem cd_X11_keep_27 : ylk m_X11_keep.2.2.2.2.1 27 = some (.aaload) := by decide +kernel
theorem cd_X11_keep_28 : ylk m_X11_keep.2.2.2.2.1 28 = some (.invokevirtual 327) := by decide +kernel
theorem cd_X11_keep_31 : ylk m_X11_keep.2.2.2.2.1 31 = some (.iconst 0) := by decide +kernel
theorem cd_X11_keep_32 : ylk m_X11_keep.2.2.2.2.1 32 = some (.ireturn) := by decide +kernel
theorem cd_X11_keep_33 : ylk m_X11_keep.2.2.2.2.1 33 = some (.iload_n 3) := by decide +kernel
theorem cd_X11_keep_34 : ylk m_X11_keep.2.2.2.2.1 34 = some (.ifCond .lt 21) := by decide +kernel
theorem cd_X11_keep_37 : ylk m_X11_keep.2.2.2.2.1 37 = some (.iload_n 3) := by decide +kernel
theorem cd_X11_keep_38 : ylk m_X11_keep.2.2.2.2.1 38 = some (.bipush 8) := by decide +kernel
theorem cd_X11_keep_40 : ylk m_X11_keep.2.2.2.2.1 40 = some (.if_icmp .ge 15) := by decide +kernel
theorem cd_X11_keep_43 : ylk m_X11_keep.2.2.2.2.1 43 = some (.iload 4) := by decide +kernel
theorem cd_X11_keep_45 : ylk m_X11_keep.2.2.2.2.1 45 = some (.ifCond .lt 10) := by decide +kernel
theorem cd_X11_keep_48 : ylk m_X11_keep.2.2.2.2.1 48 = some (.iload 4) := by decide +kernel
theorem cd_X11_keep_50 : ylk m_X11_keep.2.2.2.2.1 50 = some (.bipush 10) := by decide +kernel
theorem cd_X11_keep_52 : ylk m_X11_keep.2.2.2.2.1 52 = some (.if_icmp .lt 5) := by decide +kernel
theorem cd_X11_keep_55 : ylk m_X11_keep.2.2.2.2.1 55 = some (.iconst (-1)) := by decide +kernel
theorem cd_X11_keep_56 : ylk m_X11_keep.2.2.2.2.1 56 = some (.ireturn) := by decide +kernel
theorem cd_X11_keep_57 : ylk m_X11_keep.2.2.2.2.1 57 = some (.aload_n 0) := by decide +kernel
theorem cd_X11_keep_58 : ylk m_X11_keep.2.2.2.2.1 58 = some (.getfield 28) := by decide +kernel
theorem cd_X11_keep_61 : ylk m_X11_keep.2.2.2.2.1 61 = some (.iload_n 1) := by decide +kernel
theorem cd_X11_keep_62 : ylk m_X11_keep.2.2.2.2.1 62 = some (.aaload) := by decide +kernel
theorem cd_X11_keep_63 : ylk m_X11_keep.2.2.2.2.1 63 = some (.iload_n 3) := by decide +kernel
theorem cd_X11_keep_64 : ylk m_X11_keep.2.2.2.2.1 64 = some (.iload 4) := by decide +kernel
theorem cd_X11_keep_66 : ylk m_X11_keep.2.2.2.2.1 66 = some (.invokevirtual 330) := by decide +kernel
theorem cd_X11_keep_69 : ylk m_X11_keep.2.2.2.2.1 69 = some (.iconst 0) := by decide +kernel
theorem cd_X11_keep_70 : ylk m_X11_keep.2.2.2.2.1 70 = some (.ireturn) := by decide +kernel
noncomputable abbrev yb_X11_keep (C : yC) : ySt → Option (Option Value × yM) := yrn m_X11_keep C
theorem en_X11_keep (n : Nat) (A : yM) (v0 : Nat) (v1 : Int32) (v2 : Int32) (v3 : Int32) (v4 : Int32) : ycall (n + 1) 128 [.ref v0, .int v1, .int v2, .int v3, .int v4] A = (yi ((ycall n) 134 [.int v1] A)).bind (fun z1 => if z1.1 = 0 then (some (some (.int (-1 : Int32)), z1.2)) else (if v2 < 0 then (some (some (.int (-1 : Int32)), z1.2)) else (if v2 ≤ (1 : Int32) then (if v2 = 0 then (ygR z1.2 v0 10 4 (fun a5 => yrR z1.2 a5 v1 (fun a6 => (yv (yvt [(7, 52)] (ycall n) [.ref a6] z1.2)).bind (fun A7 => some (some (.int (0 : Int32)), A7))))) else (if v3 < 0 then (some (some (.int (-1 : Int32)), z1.2)) else (if (8 : Int32) ≤ v3 then (some (some (.int (-1 : Int32)), z1.2)) else (if v4 < 0 then (some (some (.int (-1 : Int32)), z1.2)) else (if v4 < (10 : Int32) then (ygR z1.2 v0 10 4 (fun a2 => yrR z1.2 a2 v1 (fun a3 => (yv (yvt [(7, 53)] (ycall n) [.ref a3, .int v3, .int v4] z1.2)).bind (fun A4 => some (some (.int (0 : Int32)), A4))))) else (some (some (.int (-1 : Int32)), z1.2))))))) else (some (some (.int (-1 : Int32)), z1.2))))) := (ybig_blk 30 _).trans (z_iload_n cd_X11_keep_0 (j := 1) rfl rfl (p := 1) rfl (zgo rfl (z_cs1 cd_X11_keep_1 (zs (key := 799) (by decide)) cl_X11_c799 rfl rfl rfl rfl (p := 4) rfl (fun _ => (zgo rfl (z_if_eq cd_X11_keep_4 (p := 16) rfl (p2 := 7) rfl (zgo rfl (z_iconst cd_X11_keep_16 ki_m1 (p := 17) rfl (zgo rfl (z_iret cd_X11_keep_17 rfl)))) (zgo rfl (z_iload_n cd_X11_keep_7 (j := 2) rfl rfl (p := 8) rfl (zgo rfl (z_if_lt cd_X11_keep_8 (p := 16) rfl (p2 := 11) rfl (zgo rfl (z_iconst cd_X11_keep_16 ki_m1 (p := 17) rfl (zgo rfl (z_iret cd_X11_keep_17 rfl)))) (zgo rfl (z_iload_n cd_X11_keep_11 (j := 2) rfl rfl (p := 12) rfl (zgo rfl (z_iconst cd_X11_keep_12 ki_1 (p := 13) rfl (zgo rfl (z_ic_le cd_X11_keep_13 (p := 18) rfl (p2 := 16) rfl (zgo rfl (z_iload_n cd_X11_keep_18 (j := 2) rfl rfl (p := 19) rfl (zgo rfl (z_if_ne cd_X11_keep_19 (p := 33) rfl (p2 := 22) rfl (zgo rfl (z_aload_n cd_X11_keep_22 (j := 0) rfl rfl (p := 23) rfl (zgo rfl (z_getR cd_X11_keep_23 fd_X11_28 (p := 26) rfl (fun _ => (zgo rfl (z_iload_n cd_X11_keep_26 (j := 1) rfl rfl (p := 27) rfl (zgo rfl (z_aaload cd_X11_keep_27 (p := 28) rfl (fun _ => (zgo rfl (z_cv0 cd_X11_keep_28 (zv (key := 981) (by decide)) cl_X11_c981 rfl rfl rfl rfl (p := 31) rfl (fun _ => (zgo rfl (z_iconst cd_X11_keep_31 ki_0 (p := 32) rfl (zgo rfl (z_iret cd_X11_keep_32 rfl))))))))))))))))) (zgo rfl (z_iload_n cd_X11_keep_33 (j := 3) rfl rfl (p := 34) rfl (zgo rfl (z_if_lt cd_X11_keep_34 (p := 55) rfl (p2 := 37) rfl (zgo rfl (z_iconst cd_X11_keep_55 ki_m1 (p := 56) rfl (zgo rfl (z_iret cd_X11_keep_56 rfl)))) (zgo rfl (z_iload_n cd_X11_keep_37 (j := 3) rfl rfl (p := 38) rfl (zgo rfl (z_bipush cd_X11_keep_38 kb_8 (p := 40) rfl (zgo rfl (z_ic_ge cd_X11_keep_40 (p := 55) rfl (p2 := 43) rfl (zgo rfl (z_iconst cd_X11_keep_55 ki_m1 (p := 56) rfl (zgo rfl (z_iret cd_X11_keep_56 rfl)))) (zgo rfl (z_iload cd_X11_keep_43 rfl (p := 45) rfl (zgo rfl (z_if_lt cd_X11_keep_45 (p := 55) rfl (p2 := 48) rfl (zgo rfl (z_iconst cd_X11_keep_55 ki_m1 (p := 56) rfl (zgo rfl (z_iret cd_X11_keep_56 rfl)))) (zgo rfl (z_iload cd_X11_keep_48 rfl (p := 50) rfl (zgo rfl (z_bipush cd_X11_keep_50 kb_10 (p := 52) rfl (zgo rfl (z_ic_lt cd_X11_keep_52 (p := 57) rfl (p2 := 55) rfl (zgo rfl (z_aload_n cd_X11_keep_57 (j := 0) rfl rfl (p := 58) rfl (zgo rfl (z_getR cd_X11_keep_58 fd_X11_28 (p := 61) rfl (fun _ => (zgo rfl (z_iload_n cd_X11_keep_61 (j := 1) rfl rfl (p := 62) rfl (zgo rfl (z_aaload cd_X11_keep_62 (p := 63) rfl (fun _ => (zgo rfl (z_iload_n cd_X11_keep_63 (j := 3) rfl rfl (p := 64) rfl (zgo rfl (z_iload cd_X11_keep_64 rfl (p := 66) rfl (zgo rfl (z_cv0 cd_X11_keep_66 (zv (key := 990) (by decide)) cl_X11_c990 rfl rfl rfl rfl (p := 69) rfl (fun _ => (zgo rfl (z_iconst cd_X11_keep_69 ki_0 (p := 70) rfl (zgo rfl (z_iret cd_X11_keep_70 rfl))))))))))))))))))))) (zgo rfl (z_iconst cd_X11_keep_55 ki_m1 (p := 56) rfl (zgo rfl (z_iret cd_X11_keep_56 rfl)))))))))))))))))))))))))))) (zgo rfl (z_iconst cd_X11_keep_16 ki_m1 (p := 17) rfl (zgo rfl (z_iret cd_X11_keep_17 rfl))))))))))))))))))))
theorem cd_X11_row_0 : ylk m_X11_row.2.2.2.2.1 0 = some (.iload_n 1) := by decide +kernel
theorem cd_X11_row_1 : ylk m_X11_row.2.2.2.2.1 1 = some (.invokestatic 266) := by decide +kernel
theorem cd_X11_row_4 : ylk m_X11_row.2.2.2.2.1 4 = some (.ifCond .eq 18) := by decide +kernel
theorem cd_X11_row_7 : ylk m_X11_row.2.2.2.2.1 7 = some (.iload_n 2) := by decide +kernel
theorem cd_X11_row_8 : ylk m_X11_row.2.2.2.2.1 8 = some (.ifCond .lt 14) := by decide +kernel
theorem cd_X11_row_11 : ylk m_X11_row.2.2.2.2.1 11 = some (.iload_n 2) := by decide +kernel
theorem cd_X11_row_12 : ylk m_X11_row.2.2.2.2.1 12 = some (.iconst 2) := by decide +kernel
theorem cd_X11_row_13 : ylk m_X11_row.2.2.2.2.1 13 = some (.if_icmp .gt 9) := by decide +kernel
theorem cd_X11_row_16 : ylk m_X11_row.2.2.2.2.1 16 = some (.iload_n 3) := by decide +kernel
theorem cd_X11_row_17 : ylk m_X11_row.2.2.2.2.1 17 = some (.bipush 100) := by decide +kernel
theorem cd_X11_row_19 : ylk m_X11_row.2.2.2.2.1 19 = some (.if_icmp .le 5) := by decide +kernel
theorem cd_X11_row_22 : ylk m_X11_row.2.2.2.2.1 22 = some (.iconst (-1)) := by decide +kernel
theorem cd_X11_row_23 : ylk m_X11_row.2.2.2.2.1 23 = some (.ireturn) := by decide +kernel
theorem cd_X11_row_24 : ylk m_X11_row.2.2.2.2.1 24 = some (.iload_n 3) := by decide +kernel
theorem cd_X11_row_25 : ylk m_X11_row.2.2.2.2.1 25 = some (.ifCond .ge 6) := by decide +kernel
theorem cd_X11_row_28 : ylk m_X11_row.2.2.2.2.1 28 = some (.bipush (-14)) := by decide +kernel
theorem cd_X11_row_30 : ylk m_X11_row.2.2.2.2.1 30 = some (.ireturn) := by decide +kernel
theorem cd_X11_row_31 : ylk m_X11_row.2.2.2.2.1 31 = some (.aload_n 0) := by decide +kernel
theorem cd_X11_row_32 : ylk m_X11_row.2.2.2.2.1 32 = some (.getfield 28) := by decide +kernel
theorem cd_X11_row_35 : ylk m_X11_row.2.2.2.2.1 35 = some (.iload_n 1) := by decide +kernel
theorem cd_X11_row_36 : ylk m_X11_row.2.2.2.2.1 36 = some (.aaload) := by decide +kernel
theorem cd_X11_row_37 : ylk m_X11_row.2.2.2.2.1 37 = some (.iload_n 2) := by decide +kernel
theorem cd_X11_row_38 : ylk m_X11_row.2.2.2.2.1 38 = some (.iload_n 3) := by decide +kernel
theorem cd_X11_row_39 : ylk m_X11_row.2.2.2.2.1 39 = some (.invokevirtual 334) := by decide +kernel
theorem cd_X11_row_42 : ylk m_X11_row.2.2.2.2.1 42 = some (.iconst 0) := by decide +kernel
theorem cd_X11_row_43 : ylk m_X11_row.2.2.2.2.1 43 = some (.ireturn) := by decide +kernel
noncomputable abbrev yb_X11_row (C : yC) : ySt → Option (Option Value × yM) := yrn m_X11_row C
theorem en_X11_row (n : Nat) (A : yM) (v0 : Nat) (v1 : Int32) (v2 : Int32) (v3 : Int32) : ycall (n + 1) 129 [.ref v0, .int v1, .int v2, .int v3] A = (yi ((ycall n) 134 [.int v1] A)).bind (fun z1 => if z1.1 = 0 then (some (some (.int (-1 : Int32)), z1.2)) else (if v2 < 0 then (some (some (.int (-1 : Int32)), z1.2)) else (if (2 : Int32) < v2 then (some (some (.int (-1 : Int32)), z1.2)) else (if v3 ≤ (100 : Int32) then (if 0 ≤ v3 then (ygR z1.2 v0 10 4 (fun a2 => yrR z1.2 a2 v1 (fun a3 => (yv (yvt [(7, 54)] (ycall n) [.ref a3, .int v2, .int v3] z1.2)).bind (fun A4 => some (some (.int (0 : Int32)), A4))))) else (some (some (.int (-14 : Int32)), z1.2))) else (some (some (.int (-1 : Int32)), z1.2)))))) := (ybig_blk 23 _).trans (z_iload_n cd_X11_row_0 (j := 1) rfl rfl (p := 1) rfl (zgo rfl (z_cs1 cd_X11_row_1 (zs (key := 799) (by decide)) cl_X11_c799 rfl rfl rfl rfl (p := 4) rfl (fun _ => (zgo rfl (z_if_eq cd_X11_row_4 (p := 22) rfl (p2 := 7) rfl (zgo rfl (z_iconst cd_X11_row_22 ki_m1 (p := 23) rfl (zgo rfl (z_iret cd_X11_row_23 rfl)))) (zgo rfl (z_iload_n cd_X11_row_7 (j := 2) rfl rfl (p := 8) rfl (zgo rfl (z_if_lt cd_X11_row_8 (p := 22) rfl (p2 := 11) rfl (zgo rfl (z_iconst cd_X11_row_22 ki_m1 (p := 23) rfl (zgo rfl (z_iret cd_X11_row_23 rfl)))) (zgo rfl (z_iload_n cd_X11_row_11 (j := 2) rfl rfl (p := 12) rfl (zgo rfl (z_iconst cd_X11_row_12 ki_2 (p := 13) rfl (zgo rfl (z_ic_gt cd_X11_row_13 (p := 22) rfl (p2 := 16) rfl (zgo rfl (z_iconst cd_X11_row_22 ki_m1 (p := 23) rfl (zgo rfl (z_iret cd_X11_row_23 rfl)))) (zgo rfl (z_iload_n cd_X11_row_16 (j := 3) rfl rfl (p := 17) rfl (zgo rfl (z_bipush cd_X11_row_17 kb_100 (p := 19) rfl (zgo rfl (z_ic_le cd_X11_row_19 (p := 24) rfl (p2 := 22) rfl (zgo rfl (z_iload_n cd_X11_row_24 (j := 3) rfl rfl (p := 25) rfl (zgo rfl (z_if_ge cd_X11_row_25 (p := 31) rfl (p2 := 28) rfl (zgo rfl (z_aload_n cd_X11_row_31 (j := 0) rfl rfl (p := 32) rfl (zgo rfl (z_getR cd_X11_row_32 fd_X11_28 (p := 35) rfl (fun _ => (zgo rfl (z_iload_n cd_X11_row_35 (j := 1) rfl rfl (p := 36) rfl (zgo rfl (z_aaload cd_X11_row_36 (p := 37) rfl (fun _ => (zgo rfl (z_iload_n cd_X11_row_37 (j := 2) rfl rfl (p := 38) rfl (zgo rfl (z_iload_n cd_X11_row_38 (j := 3) rfl rfl (p := 39) rfl (zgo rfl (z_cv0 cd_X11_row_39 (zv (key := 1002) (by decide)) cl_X11_c1002 rfl rfl rfl rfl (p := 42) rfl (fun _ => (zgo rfl (z_iconst cd_X11_row_42 ki_0 (p := 43) rfl (zgo rfl (z_iret cd_X11_row_43 rfl))))))))))))))))))))) (zgo rfl (z_bipush cd_X11_row_28 kb_m14 (p := 30) rfl (zgo rfl (z_iret cd_X11_row_30 rfl)))))))) (zgo rfl (z_iconst cd_X11_row_22 ki_m1 (p := 23) rfl (zgo rfl (z_iret cd_X11_row_23 rfl))))))))))))))))))))))))))
theorem cd_X11_put_0 : ylk m_X11_put.2.2.2.2.1 0 = some (.aload_n 0) := by decide +kernel
theorem cd_X11_put_1 : ylk m_X11_put.2.2.2.2.1 1 = some (.iload_n 1) := by decide +kernel
theorem cd_X11_put_2 : ylk m_X11_put.2.2.2.2.1 2 = some (.invokevirtual 43) := by decide +kernel
theorem cd_X11_put_5 : ylk m_X11_put.2.2.2.2.1 5 = some (.istore 4) := by decide +kernel
theorem cd_X11_put_7 : ylk m_X11_put.2.2.2.2.1 7 = some (.iload 4) := by decide +kernel
theorem cd_X11_put_9 : ylk m_X11_put.2.2.2.2.1 9 = some (.ifCond .eq 6) := by decide +kernel
theorem cd_X11_put_12 : ylk m_X11_put.2.2.2.2.1 12 = some (.iload 4) := by decide +kernel
theorem cd_X11_put_14 : ylk m_X11_put.2.2.2.2.1 14 = some (.ireturn) := by decide +kernel
theorem cd_X11_put_15 : ylk m_X11_put.2.2.2.2.1 15 = some (.aload_n 0) := by decide +kernel
theorem cd_X11_put_16 : ylk m_X11_put.2.2.2.2.1 16 = some (.getfield 28) := by decide +kernel
theorem cd_X11_put_19 : ylk m_X11_put.2.2.2.2.1 19 = some (.iload_n 1) := by decide +kernel
theorem cd_X11_put_20 : ylk m_X11_put.2.2.2.2.1 20 = some (.aaload) := by decide +kernel
theorem cd_X11_put_21 : ylk m_X11_put.2.2.2.2.1 21 = some (.iload_n 2) := by decide +kernel
theorem cd_X11_put_22 : ylk m_X11_put.2.2.2.2.1 22 = some (.invokevirtual 337) := by decide +kernel
theorem cd_X11_put_25 : ylk m_X11_put.2.2.2.2.1 25 = some (.ifCond .ne 6) := by decide +kernel
theorem cd_X11_put_28 : ylk m_X11_put.2.2.2.2.1 28 = some (.bipush (-13)) := by decide +kernel
theorem cd_X11_put_30 : ylk m_X11_put.2.2.2.2.1 30 = some (.ireturn) := by decide +kernel
theorem cd_X11_put_31 : ylk m_X11_put.2.2.2.2.1 31 = some (.aload_n 0) := by decide +kernel
theorem cd_X11_put_32 : ylk m_X11_put.2.2.2.2.1 32 = some (.getfield 28) := by decide +kernel
theorem cd_X11_put_35 : ylk m_X11_put.2.2.2.2.1 35 = some (.iload_n 1) := by decide +kernel
theorem cd_X11_put_36 : ylk m_X11_put.2.2.2.2.1 36 = some (.aaload) := by decide +kernel
theorem cd_X11_put_37 : ylk m_X11_put.2.2.2.2.1 37 = some (.iload_n 2) := by decide +kernel
theorem cd_X11_put_38 : ylk m_X11_put.2.2.2.2.1 38 = some (.iload_n 3) := by decide +kernel
theorem cd_X11_put_39 : ylk m_X11_put.2.2.2.2.1 39 = some (.invokevirtual 340) := by decide +kernel
theorem cd_X11_put_42 : ylk m_X11_put.2.2.2.2.1 42 = some (.iconst 0) := by decide +kernel
theorem cd_X11_put_43 : ylk m_X11_put.2.2.2.2.1 43 = some (.ireturn) := by decide +kernel
noncomputable abbrev yb_X11_put (C : yC) : ySt → Option (Option Value × yM) := yrn m_X11_put C
theorem en_X11_put (n : Nat) (A : yM) (v0 : Nat) (v1 : Int32) (v2 : Int32) (v3 : Int32) : ycall (n + 1) 130 [.ref v0, .int v1, .int v2, .int v3] A = (yi (yvt [(10, 135)] (ycall n) [.ref v0, .int v1] A)).bind (fun z1 => if z1.1 = 0 then (ygR z1.2 v0 10 4 (fun a2 => yrR z1.2 a2 v1 (fun a3 => (yi (yvt [(7, 55)] (ycall n) [.ref a3, .int v2] z1.2)).bind (fun z4 => if z4.1 = 0 then (some (some (.int (-13 : Int32)), z4.2)) else (ygR z4.2 v0 10 4 (fun a5 => yrR z4.2 a5 v1 (fun a6 => (yv (yvt [(7, 57)] (ycall n) [.ref a6, .int v2, .int v3] z4.2)).bind (fun A7 => some (some (.int (0 : Int32)), A7))))))))) else (some (some (.int z1.1), z1.2))) := (ybig_blk 23 _).trans (z_aload_n cd_X11_put_0 (j := 0) rfl rfl (p := 1) rfl (zgo rfl (z_iload_n cd_X11_put_1 (j := 1) rfl rfl (p := 2) rfl (zgo rfl (z_cv1 cd_X11_put_2 (zv (key := 129) (by decide)) cl_X11_c129 rfl rfl rfl rfl (p := 5) rfl (fun _ => (zgo rfl (z_istore cd_X11_put_5 rfl (p := 7) rfl (zgo rfl (z_iload cd_X11_put_7 rfl (p := 9) rfl (zgo rfl (z_if_eq cd_X11_put_9 (p := 15) rfl (p2 := 12) rfl (zgo rfl (z_aload_n cd_X11_put_15 (j := 0) rfl rfl (p := 16) rfl (zgo rfl (z_getR cd_X11_put_16 fd_X11_28 (p := 19) rfl (fun _ => (zgo rfl (z_iload_n cd_X11_put_19 (j := 1) rfl rfl (p := 20) rfl (zgo rfl (z_aaload cd_X11_put_20 (p := 21) rfl (fun _ => (zgo rfl (z_iload_n cd_X11_put_21 (j := 2) rfl rfl (p := 22) rfl (zgo rfl (z_cv1 cd_X11_put_22 (zv (key := 1011) (by decide)) cl_X11_c1011 rfl rfl rfl rfl (p := 25) rfl (fun _ => (zgo rfl (z_if_ne cd_X11_put_25 (p := 31) rfl (p2 := 28) rfl (zgo rfl (z_bipush cd_X11_put_28 kb_m13 (p := 30) rfl (zgo rfl (z_iret cd_X11_put_30 rfl)))) (zgo rfl (z_aload_n cd_X11_put_31 (j := 0) rfl rfl (p := 32) rfl (zgo rfl (z_getR cd_X11_put_32 fd_X11_28 (p := 35) rfl (fun _ => (zgo rfl (z_iload_n cd_X11_put_35 (j := 1) rfl rfl (p := 36) rfl (zgo rfl (z_aaload cd_X11_put_36 (p := 37) rfl (fun _ => (zgo rfl (z_iload_n cd_X11_put_37 (j := 2) rfl rfl (p := 38) rfl (zgo rfl (z_iload_n cd_X11_put_38 (j := 3) rfl rfl (p := 39) rfl (zgo rfl (z_cv0 cd_X11_put_39 (zv (key := 1020) (by decide)) cl_X11_c1020 rfl rfl rfl rfl (p := 42) rfl (fun _ => (zgo rfl (z_iconst cd_X11_put_42 ki_0 (p := 43) rfl (zgo rfl (z_iret cd_X11_put_43 rfl)))))))))))))))))))))))))))))))))))))) (zgo rfl (z_iload cd_X11_put_12 rfl (p := 14) rfl (zgo rfl (z_iret cd_X11_put_14 rfl))))))))))))))))
theorem cd_X11_copy_0 : ylk m_X11_copy.2.2.2.2.1 0 = some (.iload_n 1) := by decide +kernel
theorem cd_X11_copy_1 : ylk m_X11_copy.2.2.2.2.1 1 = some (.invokestatic 266) := by decide +kernel
theorem cd_X11_copy_4 : ylk m_X11_copy.2.2.2.2.1 4 = some (.ifCond .eq 10) := by decide +kernel
theorem cd_X11_copy_7 : ylk m_X11_copy.2.2.2.2.1 7 = some (.iload_n 3) := by decide +kernel
theorem cd_X11_copy_8 : ylk m_X11_copy.2.2.2.2.1 8 = some (.invokestatic 266) := by decide +kernel
theorem cd_X11_copy_11 : ylk m_X11_copy.2.2.2.2.1 11 = some (.ifCond .ne 5) := by decide +kernel
theorem cd_X11_copy_14 : ylk m_X11_copy.2.2.2.2.1 14 = some (.iconst (-1)) := by decide +kernel
theorem cd_X11_copy_15 : ylk m_X11_copy.2.2.2.2.1 15 = some (.ireturn) := by decide +kernel
theorem cd_X11_copy_16 : ylk m_X11_copy.2.2.2.2.1 16 = some (.aload_n 0) := by decide +kernel
theorem cd_X11_copy_17 : ylk m_X11_copy.2.2.2.2.1 17 = some (.getfield 28) := by decide +kernel
theorem cd_X11_copy_20 : ylk m_X11_copy.2.2.2.2.1 20 = some (.iload_n 1) := by decide +kernel
theorem cd_X11_copy_21 : ylk m_X11_copy.2.2.2.2.1 21 = some (.aaload) := by decide +kernel
theorem cd_X11_copy_22 : ylk m_X11_copy.2.2.2.2.1 22 = some (.astore 6) := by decide +kernel
theorem cd_X11_copy_24 : ylk m_X11_copy.2.2.2.2.1 24 = some (.aload_n 0) := by decide +kernel
theorem cd_X11_copy_25 : ylk m_X11_copy.2.2.2.2.1 25 = some (.getfield 28) := by decide +kernel
theorem cd_X11_copy_28 : ylk m_X11_copy.2.2.2.2.1 28 = some (.iload_n 3) := by decide +kernel
theorem cd_X11_copy_29 : ylk m_X11_copy.2.2.2.2.1 29 = some (.aaload) := by decide +kernel
theorem cd_X11_copy_30 : ylk m_X11_copy.2.2.2.2.1 30 = some (.astore 7) := by decide +kernel
theorem cd_X11_copy_32 : ylk m_X11_copy.2.2.2.2.1 32 = some (.aload 6) := by decide +kernel
theorem cd_X11_copy_34 : ylk m_X11_copy.2.2.2.2.1 34 = some (.getfield 357) := by decide +kernel
theorem cd_X11_copy_37 : ylk m_X11_copy.2.2.2.2.1 37 = some (.ifCond .eq 11) := by decide +kernel
theorem cd_X11_copy_40 : ylk m_X11_copy.2.2.2.2.1 40 = some (.aload 7) := by decide +kernel
theorem cd_X11_copy_42 : ylk m_X11_copy.2.2.2.2.1 42 = some (.getfield 357) := by decide +kernel
theorem cd_X11_copy_45 : ylk m_X11_copy.2.2.2.2.1 45 = some (.ifCond .ne 6) := by decide +kernel
theorem cd_X11_copy_48 : ylk m_X11_copy.2.2.2.2.1 48 = some (.bipush (-11)) := by decide +kernel
theorem cd_X11_copy_50 : ylk m_X11_copy.2.2.2.2.1 50 = some (.ireturn) := by decide +kernel
theorem cd_X11_copy_51 : ylk m_X11_copy.2.2.2.2.1 51 = some (.aload 6) := by decide +kernel
theorem cd_X11_copy_53 : ylk m_X11_copy.2.2.2.2.1 53 = some (.getfield 357) := by decide +kernel
theorem cd_X11_copy_56 : ylk m_X11_copy.2.2.2.2.1 56 = some (.iconst 2) := by decide +kernel
theorem cd_X11_copy_57 : ylk m_X11_copy.2.2.2.2.1 57 = some (.if_icmp .ne 25) := by decide +kernel
theorem cd_X11_copy_60 : ylk m_X11_copy.2.2.2.2.1 60 = some (.aload 7) := by decide +kernel
theorem cd_X11_copy_62 : ylk m_X11_copy.2.2.2.2.1 62 = some (.getfield 357) := by decide +kernel
theorem cd_X11_copy_65 : ylk m_X11_copy.2.2.2.2.1 65 = some (.iconst 2) := by decide +kernel
theorem cd_X11_copy_66 : ylk m_X11_copy.2.2.2.2.1 66 = some (.if_icmp .ne 16) := by decide +kernel
theorem cd_X11_copy_69 : ylk m_X11_copy.2.2.2.2.1 69 = some (.aload 6) := by decide +kernel
theorem cd_X11_copy_71 : ylk m_X11_copy.2.2.2.2.1 71 = some (.getfield 47) := by decide +kernel
theorem cd_X11_copy_74 : ylk m_X11_copy.2.2.2.2.1 74 = some (.aload 7) := by decide +kernel
theorem cd_X11_copy_76 : ylk m_X11_copy.2.2.2.2.1 76 = some (.getfield 47) := by decide +kernel
theorem cd_X11_copy_79 : ylk m_X11_copy.2.2.2.2.1 79 = some (.if_icmp .eq 6) := by decide +kernel
theorem cd_X11_copy_82 : ylk m_X11_copy.2.2.2.2.1 82 = some (.bipush (-12)) := by decide +kernel
theorem cd_X11_copy_84 : ylk m_X11_copy.2.2.2.2.1 84 = some (.ireturn) := by decide +kernel
theorem cd_X11_copy_85 : ylk m_X11_copy.2.2.2.2.1 85 = some (.aload 6) := by decide +kernel
theorem cd_X11_copy_87 : ylk m_X11_copy.2.2.2.2.1 87 = some (.iload_n 2) := by decide +kernel
theorem cd_X11_copy_88 : ylk m_X11_copy.2.2.2.2.1 88 = some (.iload 5) := by decide +kernel
theorem cd_X11_copy_90 : ylk m_X11_copy.2.2.2.2.1 90 = some (.invokevirtual 360) := by decide +kernel
theorem cd_X11_copy_93 : ylk m_X11_copy.2.2.2.2.1 93 = some (.ifCond .eq 15) := by decide +kernel
theorem cd_X11_copy_96 : ylk m_X11_copy.2.2.2.2.1 96 = some (.aload 7) := by decide +kernel
theorem cd_X11_copy_98 : ylk m_X11_copy.2.2.2.2.1 98 = some (.iload 4) := by decide +kernel
theorem cd_X11_copy_100 : ylk m_X11_copy.2.2.2.2.1 100 = some (.iload 5) := by decide +kernel
theorem cd_X11_copy_102 : ylk m_X11_copy.2.2.2.2.1 102 = some (.invokevirtual 360) := by decide +kernel
theorem cd_X11_copy_105 : ylk m_X11_copy.2.2.2.2.1 105 = some (.ifCond .ne 6) := by decide +kernel
theorem cd_X11_copy_108 : ylk m_X11_copy.2.2.2.2.1 108 = some (.bipush (-13)) := by decide +kernel
theorem cd_X11_copy_110 : ylk m_X11_copy.2.2.2.2.1 110 = some (.ireturn) := by decide +kernel
theorem cd_X11_copy_111 : ylk m_X11_copy.2.2.2.2.1 111 = some (.aload 6) := by decide +kernel
theorem cd_X11_copy_113 : ylk m_X11_copy.2.2.2.2.1 113 = some (.getfield 260) := by decide +kernel
theorem cd_X11_copy_116 : ylk m_X11_copy.2.2.2.2.1 116 = some (.iload_n 2) := by decide +kernel
theorem cd_X11_copy_117 : ylk m_X11_copy.2.2.2.2.1 117 = some (.aload 7) := by decide +kernel
theorem cd_X11_copy_119 : ylk m_X11_copy.2.2.2.2.1 119 = some (.getfield 260) := by decide +kernel
theorem cd_X11_copy_122 : ylk m_X11_copy.2.2.2.2.1 122 = some (.iload 4) := by decide +kernel
theorem cd_X11_copy_124 : ylk m_X11_copy.2.2.2.2.1 124 = some (.iload 5) := by decide +kernel
theorem cd_X11_copy_126 : ylk m_X11_copy.2.2.2.2.1 126 = some (.invokestatic 363) := by decide +kernel
theorem cd_X11_copy_129 : ylk m_X11_copy.2.2.2.2.1 129 = some (.iload 5) := by decide +kernel
theorem cd_X11_copy_131 : ylk m_X11_copy.2.2.2.2.1 131 = some (.ireturn) := by decide +kernel
noncomputable abbrev yb_X11_copy (C : yC) : ySt → Option (Option Value × yM) := yrn m_X11_copy C
theorem en_X11_copy (n : Nat) (A : yM) (v0 : Nat) (v1 : Int32) (v2 : Int32) (v3 : Int32) (v4 : Int32) (v5 : Int32) : ycall (n + 1) 131 [.ref v0, .int v1, .int v2, .int v3, .int v4, .int v5] A = (yi ((ycall n) 134 [.int v1] A)).bind (fun z1 => if z1.1 = 0 then (some (some (.int (-1 : Int32)), z1.2)) else ((yi ((ycall n) 134 [.int v3] z1.2)).bind (fun z2 => if z2.1 = 0 then (some (some (.int (-1 : Int32)), z2.2)) else (ygR z2.2 v0 10 4 (fun a3 => yrR z2.2 a3 v1 (fun a4 => ygR z2.2 v0 10 4 (fun a5 => yrR z2.2 a5 v3 (fun a6 => ygI z2.2 a4 7 0 (fun x7 => if x7 = 0 then (some (some (.int (-11 : Int32)), z2.2)) else (ygI z2.2 a6 7 0 (fun x8 => if x8 = 0 then (some (some (.int (-11 : Int32)), z2.2)) else (ygI z2.2 a4 7 0 (fun x9 => if x9 = (2 : Int32) then (ygI z2.2 a6 7 0 (fun x10 => if x10 = (2 : Int32) then (ygI z2.2 a4 7 3 (fun x11 => ygI z2.2 a6 7 3 (fun x12 => if x11 = x12 then ((yi (yvt [(7, 56)] (ycall n) [.ref a4, .int v2, .int v5] z2.2)).bind (fun z13 => if z13.1 = 0 then (some (some (.int (-13 : Int32)), z13.2)) else ((yi (yvt [(7, 56)] (ycall n) [.ref a6, .int v4, .int v5] z13.2)).bind (fun z14 => if z14.1 = 0 then (some (some (.int (-13 : Int32)), z14.2)) else (ygR z14.2 a4 7 5 (fun a15 => ygR z14.2 a6 7 5 (fun a16 => (ycpy [.ref a15, .int v2, .ref a16, .int v4, .int v5] z14.2).bind (fun A17 => some (some (.int v5), A17))))))))) else (some (some (.int (-12 : Int32)), z2.2))))) else (some (some (.int (-12 : Int32)), z2.2)))) else (some (some (.int (-12 : Int32)), z2.2))))))))))))))) := (ybig_blk 56 _).trans (z_iload_n cd_X11_copy_0 (j := 1) rfl rfl (p := 1) rfl (zgo rfl (z_cs1 cd_X11_copy_1 (zs (key := 799) (by decide)) cl_X11_c799 rfl rfl rfl rfl (p := 4) rfl (fun _ => (zgo rfl (z_if_eq cd_X11_copy_4 (p := 14) rfl (p2 := 7) rfl (zgo rfl (z_iconst cd_X11_copy_14 ki_m1 (p := 15) rfl (zgo rfl (z_iret cd_X11_copy_15 rfl)))) (zgo rfl (z_iload_n cd_X11_copy_7 (j := 3) rfl rfl (p := 8) rfl (zgo rfl (z_cs1 cd_X11_copy_8 (zs (key := 799) (by decide)) cl_X11_c799 rfl rfl rfl rfl (p := 11) rfl (fun _ => (zgo rfl (z_if_ne cd_X11_copy_11 (p := 16) rfl (p2 := 14) rfl (zgo rfl (z_iconst cd_X11_copy_14 ki_m1 (p := 15) rfl (zgo rfl (z_iret cd_X11_copy_15 rfl)))) (zgo rfl (z_aload_n cd_X11_copy_16 (j := 0) rfl rfl (p := 17) rfl (zgo rfl (z_getR cd_X11_copy_17 fd_X11_28 (p := 20) rfl (fun _ => (zgo rfl (z_iload_n cd_X11_copy_20 (j := 1) rfl rfl (p := 21) rfl (zgo rfl (z_aaload cd_X11_copy_21 (p := 22) rfl (fun _ => (zgo rfl (z_astore cd_X11_copy_22 rfl (p := 24) rfl (zgo rfl (z_aload_n cd_X11_copy_24 (j := 0) rfl rfl (p := 25) rfl (zgo rfl (z_getR cd_X11_copy_25 fd_X11_28 (p := 28) rfl (fun _ => (zgo rfl (z_iload_n cd_X11_copy_28 (j := 3) rfl rfl (p := 29) rfl (zgo rfl (z_aaload cd_X11_copy_29 (p := 30) rfl (fun _ => (zgo rfl (z_astore cd_X11_copy_30 rfl (p := 32) rfl (zgo rfl (z_aload cd_X11_copy_32 rfl (p := 34) rfl (zgo rfl (z_getI cd_X11_copy_34 fd_X11_357 (p := 37) rfl (fun _ => (zgo rfl (z_if_eq cd_X11_copy_37 (p := 48) rfl (p2 := 40) rfl (zgo rfl (z_bipush cd_X11_copy_48 kb_m11 (p := 50) rfl (zgo rfl (z_iret cd_X11_copy_50 rfl)))) (zgo rfl (z_aload cd_X11_copy_40 rfl (p := 42) rfl (zgo rfl (z_getI cd_X11_copy_42 fd_X11_357 (p := 45) rfl (fun _ => (zgo rfl (z_if_ne cd_X11_copy_45 (p := 51) rfl (p2 := 48) rfl (zgo rfl (z_bipush cd_X11_copy_48 kb_m11 (p := 50) rfl (zgo rfl (z_iret cd_X11_copy_50 rfl)))) (zgo rfl (z_aload cd_X11_copy_51 rfl (p := 53) rfl (zgo rfl (z_getI cd_X11_copy_53 fd_X11_357 (p := 56) rfl (fun _ => (zgo rfl (z_iconst cd_X11_copy_56 ki_2 (p := 57) rfl (zgo rfl (z_ic_ne cd_X11_copy_57 (p := 82) rfl (p2 := 60) rfl (zgo rfl (z_aload cd_X11_copy_60 rfl (p := 62) rfl (zgo rfl (z_getI cd_X11_copy_62 fd_X11_357 (p := 65) rfl (fun _ => (zgo rfl (z_iconst cd_X11_copy_65 ki_2 (p := 66) rfl (zgo rfl (z_ic_ne cd_X11_copy_66 (p := 82) rfl (p2 := 69) rfl (zgo rfl (z_aload cd_X11_copy_69 rfl (p := 71) rfl (zgo rfl (z_getI cd_X11_copy_71 fd_X11_47 (p := 74) rfl (fun _ => (zgo rfl (z_aload cd_X11_copy_74 rfl (p := 76) rfl (zgo rfl (z_getI cd_X11_copy_76 fd_X11_47 (p := 79) rfl (fun _ => (zgo rfl (z_ic_eq cd_X11_copy_79 (p := 85) rfl (p2 := 82) rfl (zgo rfl (z_aload cd_X11_copy_85 rfl (p := 87) rfl (zgo rfl (z_iload_n cd_X11_copy_87 (j := 2) rfl rfl (p := 88) rfl (zgo rfl (z_iload cd_X11_copy_88 rfl (p := 90) rfl (zgo rfl (z_cv1 cd_X11_copy_90 (zv (key := 1080) (by decide)) cl_X11_c1080 rfl rfl rfl rfl (p := 93) rfl (fun _ => (zgo rfl (z_if_eq cd_X11_copy_93 (p := 108) rfl (p2 := 96) rfl (zgo rfl (z_bipush cd_X11_copy_108 kb_m13 (p := 110) rfl (zgo rfl (z_iret cd_X11_copy_110 rfl)))) (zgo rfl (z_aload cd_X11_copy_96 rfl (p := 98) rfl (zgo rfl (z_iload cd_X11_copy_98 rfl (p := 100) rfl (zgo rfl (z_iload cd_X11_copy_100 rfl (p := 102) rfl (zgo rfl (z_cv1 cd_X11_copy_102 (zv (key := 1080) (by decide)) cl_X11_c1080 rfl rfl rfl rfl (p := 105) rfl (fun _ => (zgo rfl (z_if_ne cd_X11_copy_105 (p := 111) rfl (p2 := 108) rfl (zgo rfl (z_bipush cd_X11_copy_108 kb_m13 (p := 110) rfl (zgo rfl (z_iret cd_X11_copy_110 rfl)))) (zgo rfl (z_aload cd_X11_copy_111 rfl (p := 113) rfl (zgo rfl (z_getR cd_X11_copy_113 fd_X11_260 (p := 116) rfl (fun _ => (zgo rfl (z_iload_n cd_X11_copy_116 (j := 2) rfl rfl (p := 117) rfl (zgo rfl (z_aload cd_X11_copy_117 rfl (p := 119) rfl (zgo rfl (z_getR cd_X11_copy_119 fd_X11_260 (p := 122) rfl (fun _ => (zgo rfl (z_iload cd_X11_copy_122 rfl (p := 124) rfl (zgo rfl (z_iload cd_X11_copy_124 rfl (p := 126) rfl (zgo rfl (z_cpy cd_X11_copy_126 (zs (key := 1090) (by decide)) cl_X11_c1090 rfl rfl rfl rfl (p := 129) rfl (fun _ => (zgo rfl (z_iload cd_X11_copy_129 rfl (p := 131) rfl (zgo rfl (z_iret cd_X11_copy_131 rfl))))))))))))))))))))))))))))))))))))))))))))) (zgo rfl (z_bipush cd_X11_copy_82 kb_m12 (p := 84) rfl (zgo rfl (z_iret cd_X11_copy_84 rfl)))))))))))))))) (zgo rfl (z_bipush cd_X11_copy_82 kb_m12 (p := 84) rfl (zgo rfl (z_iret cd_X11_copy_84 rfl))))))))))))) (zgo rfl (z_bipush cd_X11_copy_82 kb_m12 (p := 84) rfl (zgo rfl (z_iret cd_X11_copy_84 rfl))))))))))))))))))))))))))))))))))))))))))))))))))))))))))))))))
theorem cd_X11_cost_0 : ylk m_X11_cost.2.2.2.2.1 0 = some (.aload_n 0) := by decide +kernel
theorem cd_X11_cost_1 : ylk m_X11_cost.2.2.2.2.1 1 = some (.iload_n 1) := by decide +kernel
theorem cd_X11_cost_2 : ylk m_X11_cost.2.2.2.2.1 2 = some (.invokevirtual 118) := by decide +kernel
theorem cd_X11_cost_5 : ylk m_X11_cost.2.2.2.2.1 5 = some (.istore_n 2) := by decide +kernel
theorem cd_X11_cost_6 : ylk m_X11_cost.2.2.2.2.1 6 = some (.iload_n 2) := by decide +kernel
theorem cd_X11_cost_7 : ylk m_X11_cost.2.2.2.2.1 7 = some (.ifCond .eq 7) := by decide +kernel
theorem cd_X11_cost_10 : ylk m_X11_cost.2.2.2.2.1 10 = some (.iload_n 2) := by decide +kernel
theorem cd_X11_cost_11 : ylk m_X11_cost.2.2.2.2.1 11 = some (.goto 32) := by decide +kernel
theorem cd_X11_cost_14 : ylk m_X11_cost.2.2.2.2.1 14 = some (.aload_n 0) := by decide +kernel
theorem cd_X11_cost_15 : ylk m_X11_cost.2.2.2.2.1 15 = some (.getfield 12) := by decide +kernel
theorem cd_X11_cost_18 : ylk m_X11_cost.2.2.2.2.1 18 = some (.getfield 283) := by decide +kernel
theorem cd_X11_cost_21 : ylk m_X11_cost.2.2.2.2.1 21 = some (.aload_n 0) := by decide +kernel
theorem cd_X11_cost_22 : ylk m_X11_cost.2.2.2.2.1 22 = some (.getfield 28) := by decide +kernel
theorem cd_X11_cost_25 : ylk m_X11_cost.2.2.2.2.1 25 = some (.iload_n 1) := by decide +kernel
theorem cd_X11_cost_26 : ylk m_X11_cost.2.2.2.2.1 26 = some (.aaload) := by decide +kernel
theorem cd_X11_cost_27 : ylk m_X11_cost.2.2.2.2.1 27 = some (.getfield 121) := by decide +kernel
theorem cd_X11_cost_30 : ylk m_X11_cost.2.2.2.2.1 30 = some (.aaload) := by decide +kernel
theorem cd_X11_cost_31 : ylk m_X11_cost.2.2.2.2.1 31 = some (.aload_n 0) := by decide +kernel
theorem cd_X11_cost_32 : ylk m_X11_cost.2.2.2.2.1 32 = some (.getfield 28) := by decide +kernel
theorem cd_X11_cost_35 : ylk m_X11_cost.2.2.2.2.1 35 = some (.iload_n 1) := by decide +kernel
theorem cd_X11_cost_36 : ylk m_X11_cost.2.2.2.2.1 36 = some (.aaload) := by decide +kernel
theorem cd_X11_cost_37 : ylk m_X11_cost.2.2.2.2.1 37 = some (.getfield 123) := by decide +kernel
theorem cd_X11_cost_40 : ylk m_X11_cost.2.2.2.2.1 40 = some (.invokevirtual 369) := by decide +kernel
theorem cd_X11_cost_43 : ylk m_X11_cost.2.2.2.2.1 43 = some (.ireturn) := by decide +kernel
noncomputable abbrev yb_X11_cost (C : yC) : ySt → Option (Option Value × yM) := yrn m_X11_cost C
theorem en_X11_cost (n : Nat) (A : yM) (v0 : Nat) (v1 : Int32) : ycall (n + 1) 132 [.ref v0, .int v1] A = (yi (yvt [(10, 136)] (ycall n) [.ref v0, .int v1] A)).bind (fun z1 => if z1.1 = 0 then (ygR z1.2 v0 10 0 (fun a2 => ygR z1.2 a2 0 0 (fun a3 => ygR z1.2 v0 10 4 (fun a4 => yrR z1.2 a4 v1 (fun a5 => ygI z1.2 a5 7 1 (fun x6 => yrR z1.2 a3 x6 (fun a7 => ygR z1.2 v0 10 4 (fun a8 => yrR z1.2 a8 v1 (fun a9 => ygI z1.2 a9 7 2 (fun x10 => (yi (yvt [(1, 36), (2, 39), (3, 42), (4, 45), (5, 48), (6, 51), (8, 62), (9, 45)] (ycall n) [.ref a7, .int x10] z1.2)).bind (fun z11 => some (some (.int z11.1), z11.2)))))))))))) else (some (some (.int z1.1), z1.2))) := (ybig_blk 23 _).trans (z_aload_n cd_X11_cost_0 (j := 0) rfl rfl (p := 1) rfl (zgo rfl (z_iload_n cd_X11_cost_1 (j := 1) rfl rfl (p := 2) rfl (zgo rfl (z_cv1 cd_X11_cost_2 (zv (key := 354) (by decide)) cl_X11_c354 rfl rfl rfl rfl (p := 5) rfl (fun _ => (zgo rfl (z_istore_n cd_X11_cost_5 (j := 2) rfl rfl (p := 6) rfl (zgo rfl (z_iload_n cd_X11_cost_6 (j := 2) rfl rfl (p := 7) rfl (zgo rfl (z_if_eq cd_X11_cost_7 (p := 14) rfl (p2 := 10) rfl (zgo rfl (z_aload_n cd_X11_cost_14 (j := 0) rfl rfl (p := 15) rfl (zgo rfl (z_getR cd_X11_cost_15 fd_X11_12 (p := 18) rfl (fun _ => (zgo rfl (z_getR cd_X11_cost_18 fd_X11_283 (p := 21) rfl (fun _ => (zgo rfl (z_aload_n cd_X11_cost_21 (j := 0) rfl rfl (p := 22) rfl (zgo rfl (z_getR cd_X11_cost_22 fd_X11_28 (p := 25) rfl (fun _ => (zgo rfl (z_iload_n cd_X11_cost_25 (j := 1) rfl rfl (p := 26) rfl (zgo rfl (z_aaload cd_X11_cost_26 (p := 27) rfl (fun _ => (zgo rfl (z_getI cd_X11_cost_27 fd_X11_121 (p := 30) rfl (fun _ => (zgo rfl (z_aaload cd_X11_cost_30 (p := 31) rfl (fun _ => (zgo rfl (z_aload_n cd_X11_cost_31 (j := 0) rfl rfl (p := 32) rfl (zgo rfl (z_getR cd_X11_cost_32 fd_X11_28 (p := 35) rfl (fun _ => (zgo rfl (z_iload_n cd_X11_cost_35 (j := 1) rfl rfl (p := 36) rfl (zgo rfl (z_aaload cd_X11_cost_36 (p := 37) rfl (fun _ => (zgo rfl (z_getI cd_X11_cost_37 fd_X11_123 (p := 40) rfl (fun _ => (zgo rfl (z_cv1 cd_X11_cost_40 (zv (key := 1107) (by decide)) cl_X11_c1107 rfl rfl rfl rfl (p := 43) rfl (fun _ => (zgo rfl (z_iret cd_X11_cost_43 rfl)))))))))))))))))))))))))))))))))))))))))) (zgo rfl (z_iload_n cd_X11_cost_10 (j := 2) rfl rfl (p := 11) rfl (zgo rfl (z_goto cd_X11_cost_11 (p := 43) rfl (zgo rfl (z_iret cd_X11_cost_43 rfl))))))))))))))))))
theorem cd_X11_toss_0 : ylk m_X11_toss.2.2.2.2.1 0 = some (.aload_n 0) := by decide +kernel
theorem cd_X11_toss_1 : ylk m_X11_toss.2.2.2.2.1 1 = some (.iload_n 1) := by decide +kernel
theorem cd_X11_toss_2 : ylk m_X11_toss.2.2.2.2.1 2 = some (.invokevirtual 118) := by decide +kernel
theorem cd_X11_toss_5 : ylk m_X11_toss.2.2.2.2.1 5 = some (.istore_n 2) := by decide +kernel
theorem cd_X11_toss_6 : ylk m_X11_toss.2.2.2.2.1 6 = some (.iload_n 2) := by decide +kernel
theorem cd_X11_toss_7 : ylk m_X11_toss.2.2.2.2.1 7 = some (.ifCond .eq 7) := by decide +kernel
theorem cd_X11_toss_10 : ylk m_X11_toss.2.2.2.2.1 10 = some (.iload_n 2) := by decide +kernel
theorem cd_X11_toss_11 : ylk m_X11_toss.2.2.2.2.1 11 = some (.goto 32) := by decide +kernel
theorem cd_X11_toss_14 : ylk m_X11_toss.2.2.2.2.1 14 = some (.aload_n 0) := by decide +kernel
theorem cd_X11_toss_15 : ylk m_X11_toss.2.2.2.2.1 15 = some (.getfield 12) := by decide +kernel
theorem cd_X11_toss_18 : ylk m_X11_toss.2.2.2.2.1 18 = some (.getfield 283) := by decide +kernel
theorem cd_X11_toss_21 : ylk m_X11_toss.2.2.2.2.1 21 = some (.aload_n 0) := by decide +kernel
theorem cd_X11_toss_22 : ylk m_X11_toss.2.2.2.2.1 22 = some (.getfield 28) := by decide +kernel
theorem cd_X11_toss_25 : ylk m_X11_toss.2.2.2.2.1 25 = some (.iload_n 1) := by decide +kernel
theorem cd_X11_toss_26 : ylk m_X11_toss.2.2.2.2.1 26 = some (.aaload) := by decide +kernel
theorem cd_X11_toss_27 : ylk m_X11_toss.2.2.2.2.1 27 = some (.getfield 121) := by decide +kernel
theorem cd_X11_toss_30 : ylk m_X11_toss.2.2.2.2.1 30 = some (.aaload) := by decide +kernel
theorem cd_X11_toss_31 : ylk m_X11_toss.2.2.2.2.1 31 = some (.aload_n 0) := by decide +kernel
theorem cd_X11_toss_32 : ylk m_X11_toss.2.2.2.2.1 32 = some (.getfield 28) := by decide +kernel
theorem cd_X11_toss_35 : ylk m_X11_toss.2.2.2.2.1 35 = some (.iload_n 1) := by decide +kernel
theorem cd_X11_toss_36 : ylk m_X11_toss.2.2.2.2.1 36 = some (.aaload) := by decide +kernel
theorem cd_X11_toss_37 : ylk m_X11_toss.2.2.2.2.1 37 = some (.getfield 123) := by decide +kernel
theorem cd_X11_toss_40 : ylk m_X11_toss.2.2.2.2.1 40 = some (.invokestatic 372) := by decide +kernel
theorem cd_X11_toss_43 : ylk m_X11_toss.2.2.2.2.1 43 = some (.ireturn) := by decide +kernel
noncomputable abbrev yb_X11_toss (C : yC) : ySt → Option (Option Value × yM) := yrn m_X11_toss C
theorem en_X11_toss (n : Nat) (A : yM) (v0 : Nat) (v1 : Int32) : ycall (n + 1) 133 [.ref v0, .int v1] A = (yi (yvt [(10, 136)] (ycall n) [.ref v0, .int v1] A)).bind (fun z1 => if z1.1 = 0 then (ygR z1.2 v0 10 0 (fun a2 => ygR z1.2 a2 0 0 (fun a3 => ygR z1.2 v0 10 4 (fun a4 => yrR z1.2 a4 v1 (fun a5 => ygI z1.2 a5 7 1 (fun x6 => yrR z1.2 a3 x6 (fun a7 => ygR z1.2 v0 10 4 (fun a8 => yrR z1.2 a8 v1 (fun a9 => ygI z1.2 a9 7 2 (fun x10 => (yi ((ycall n) 900 [.ref a7, .int x10] z1.2)).bind (fun z11 => some (some (.int z11.1), z11.2)))))))))))) else (some (some (.int z1.1), z1.2))) := (ybig_blk 23 _).trans (z_aload_n cd_X11_toss_0 (j := 0) rfl rfl (p := 1) rfl (zgo rfl (z_iload_n cd_X11_toss_1 (j := 1) rfl rfl (p := 2) rfl (zgo rfl (z_cv1 cd_X11_toss_2 (zv (key := 354) (by decide)) cl_X11_c354 rfl rfl rfl rfl (p := 5) rfl (fun _ => (zgo rfl (z_istore_n cd_X11_toss_5 (j := 2) rfl rfl (p := 6) rfl (zgo rfl (z_iload_n cd_X11_toss_6 (j := 2) rfl rfl (p := 7) rfl (zgo rfl (z_if_eq cd_X11_toss_7 (p := 14) rfl (p2 := 10) rfl (zgo rfl (z_aload_n cd_X11_toss_14 (j := 0) rfl rfl (p := 15) rfl (zgo rfl (z_getR cd_X11_toss_15 fd_X11_12 (p := 18) rfl (fun _ => (zgo rfl (z_getR cd_X11_toss_18 fd_X11_283 (p := 21) rfl (fun _ => (zgo rfl (z_aload_n cd_X11_toss_21 (j := 0) rfl rfl (p := 22) rfl (zgo rfl (z_getR cd_X11_toss_22 fd_X11_28 (p := 25) rfl (fun _ => (zgo rfl (z_iload_n cd_X11_toss_25 (j := 1) rfl rfl (p := 26) rfl (zgo rfl (z_aaload cd_X11_toss_26 (p := 27) rfl (fun _ => (zgo rfl (z_getI cd_X11_toss_27 fd_X11_121 (p := 30) rfl (fun _ => (zgo rfl (z_aaload cd_X11_toss_30 (p := 31) rfl (fun _ => (zgo rfl (z_aload_n cd_X11_toss_31 (j := 0) rfl rfl (p := 32) rfl (zgo rfl (z_getR cd_X11_toss_32 fd_X11_28 (p := 35) rfl (fun _ => (zgo rfl (z_iload_n cd_X11_toss_35 (j := 1) rfl rfl (p := 36) rfl (zgo rfl (z_aaload cd_X11_toss_36 (p := 37) rfl (fun _ => (zgo rfl (z_getI cd_X11_toss_37 fd_X11_123 (p := 40) rfl (fun _ => (zgo rfl (z_cs1 cd_X11_toss_40 (zs (key := 1117) (by decide)) cl_X11_c1117 rfl rfl rfl rfl (p := 43) rfl (fun _ => (zgo rfl (z_iret cd_X11_toss_43 rfl)))))))))))))))))))))))))))))))))))))))))) (zgo rfl (z_iload_n cd_X11_toss_10 (j := 2) rfl rfl (p := 11) rfl (zgo rfl (z_goto cd_X11_toss_11 (p := 43) rfl (zgo rfl (z_iret cd_X11_toss_43 rfl))))))))))))))))))
theorem cd_X11_isShelf_0 : ylk m_X11_isShelf.2.2.2.2.1 0 = some (.iload_n 0) := by decide +kernel
theorem cd_X11_isShelf_1 : ylk m_X11_isShelf.2.2.2.2.1 1 = some (.ifCond .lt 13) := by decide +kernel
theorem cd_X11_isShelf_4 : ylk m_X11_isShelf.2.2.2.2.1 4 = some (.iload_n 0) := by decide +kernel
theorem cd_X11_isShelf_5 : ylk m_X11_isShelf.2.2.2.2.1 5 = some (.bipush 8) := by decide +kernel
theorem cd_X11_isShelf_7 : ylk m_X11_isShelf.2.2.2.2.1 7 = some (.if_icmp .ge 7) := by decide +kernel
theorem cd_X11_isShelf_10 : ylk m_X11_isShelf.2.2.2.2.1 10 = some (.iconst 1) := by decide +kernel
theorem cd_X11_isShelf_11 : ylk m_X11_isShelf.2.2.2.2.1 11 = some (.goto 4) := by decide +kernel
theorem cd_X11_isShelf_14 : ylk m_X11_isShelf.2.2.2.2.1 14 = some (.iconst 0) := by decide +kernel
theorem cd_X11_isShelf_15 : ylk m_X11_isShelf.2.2.2.2.1 15 = some (.ireturn) := by decide +kernel
noncomputable abbrev yb_X11_isShelf (C : yC) : ySt → Option (Option Value × yM) := yrn m_X11_isShelf C
theorem en_X11_isShelf (n : Nat) (A : yM) (v0 : Int32) : ycall (n + 1) 134 [.int v0] A = if v0 < 0 then (if (0 : Int32) = 0 ∨ (0 : Int32) = 1 then some (some (.int (0 : Int32)), A) else none) else (if (8 : Int32) ≤ v0 then (if (0 : Int32) = 0 ∨ (0 : Int32) = 1 then some (some (.int (0 : Int32)), A) else none) else (if (1 : Int32) = 0 ∨ (1 : Int32) = 1 then some (some (.int (1 : Int32)), A) else none)) := (ybig_blk 9 _).trans (z_iload_n cd_X11_isShelf_0 (j := 0) rfl rfl (p := 1) rfl (zgo rfl (z_if_lt cd_X11_isShelf_1 (p := 14) rfl (p2 := 4) rfl (zgo rfl (z_iconst cd_X11_isShelf_14 ki_0 (p := 15) rfl (zgo rfl (z_zret cd_X11_isShelf_15 rfl)))) (zgo rfl (z_iload_n cd_X11_isShelf_4 (j := 0) rfl rfl (p := 5) rfl (zgo rfl (z_bipush cd_X11_isShelf_5 kb_8 (p := 7) rfl (zgo rfl (z_ic_ge cd_X11_isShelf_7 (p := 14) rfl (p2 := 10) rfl (zgo rfl (z_iconst cd_X11_isShelf_14 ki_0 (p := 15) rfl (zgo rfl (z_zret cd_X11_isShelf_15 rfl)))) (zgo rfl (z_iconst cd_X11_isShelf_10 ki_1 (p := 11) rfl (zgo rfl (z_goto cd_X11_isShelf_11 (p := 15) rfl (zgo rfl (z_zret cd_X11_isShelf_15 rfl)))))))))))))))
theorem cd_X11_refusalOfRow_0 : ylk m_X11_refusalOfRow.2.2.2.2.1 0 = some (.aload_n 0) := by decide +kernel
theorem cd_X11_refusalOfRow_1 : ylk m_X11_refusalOfRow.2.2.2.2.1 1 = some (.iload_n 1) := by decide +kernel
theorem cd_X11_refusalOfRow_2 : ylk m_X11_refusalOfRow.2.2.2.2.1 2 = some (.iconst 2) := by decide +kernel
theorem cd_X11_refusalOfRow_3 : ylk m_X11_refusalOfRow.2.2.2.2.1 3 = some (.invokevirtual 381) := by decide +kernel
theorem cd_X11_refusalOfRow_6 : ylk m_X11_refusalOfRow.2.2.2.2.1 6 = some (.ireturn) := by decide +kernel
noncomputable abbrev yb_X11_refusalOfRow (C : yC) : ySt → Option (Option Value × yM) := yrn m_X11_refusalOfRow C
theorem en_X11_refusalOfRow (n : Nat) (A : yM) (v0 : Nat) (v1 : Int32) : ycall (n + 1) 135 [.ref v0, .int v1] A = (yi (yvt [(10, 137)] (ycall n) [.ref v0, .int v1, .int (2 : Int32)] A)).bind (fun z1 => some (some (.int z1.1), z1.2)) := (ybig_blk 6 _).trans (z_aload_n cd_X11_refusalOfRow_0 (j := 0) rfl rfl (p := 1) rfl (zgo rfl (z_iload_n cd_X11_refusalOfRow_1 (j := 1) rfl rfl (p := 2) rfl (zgo rfl (z_iconst cd_X11_refusalOfRow_2 ki_2 (p := 3) rfl (zgo rfl (z_cv1 cd_X11_refusalOfRow_3 (zv (key := 1143) (by decide)) cl_X11_c1143 rfl rfl rfl rfl (p := 6) rfl (fun _ => (zgo rfl (z_iret cd_X11_refusalOfRow_6 rfl))))))))))
theorem cd_X11_refusalOfOne_0 : ylk m_X11_refusalOfOne.2.2.2.2.1 0 = some (.aload_n 0) := by decide +kernel
theorem cd_X11_refusalOfOne_1 : ylk m_X11_refusalOfOne.2.2.2.2.1 1 = some (.iload_n 1) := by decide +kernel
theorem cd_X11_refusalOfOne_2 : ylk m_X11_refusalOfOne.2.2.2.2.1 2 = some (.iconst 1) := by decide +kernel
theorem cd_X11_refusalOfOne_3 : ylk m_X11_refusalOfOne.2.2.2.2.1 3 = some (.invokevirtual 381) := by decide +kernel
theorem cd_X11_refusalOfOne_6 : ylk m_X11_refusalOfOne.2.2.2.2.1 6 = some (.ireturn) := by decide +kernel
noncomputable abbrev yb_X11_refusalOfOne (C : yC) : ySt → Option (Option Value × yM) := yrn m_X11_refusalOfOne C
theorem en_X11_refusalOfOne (n : Nat) (A : yM) (v0 : Nat) (v1 : Int32) : ycall (n + 1) 136 [.ref v0, .int v1] A = (yi (yvt [(10, 137)] (ycall n) [.ref v0, .int v1, .int (1 : Int32)] A)).bind (fun z1 => some (some (.int z1.1), z1.2)) := (ybig_blk 6 _).trans (z_aload_n cd_X11_refusalOfOne_0 (j := 0) rfl rfl (p := 1) rfl (zgo rfl (z_iload_n cd_X11_refusalOfOne_1 (j := 1) rfl rfl (p := 2) rfl (zgo rfl (z_iconst cd_X11_refusalOfOne_2 ki_1 (p := 3) rfl (zgo rfl (z_cv1 cd_X11_refusalOfOne_3 (zv (key := 1143) (by decide)) cl_X11_c1143 rfl rfl rfl rfl (p := 6) rfl (fun _ => (zgo rfl (z_iret cd_X11_refusalOfOne_6 rfl))))))))))
theorem cd_X11_refusalOfHeld_0 : ylk m_X11_refusalOfHeld.2.2.2.2.1 0 = some (.iload_n 1) := by decide +kernel
theorem cd_X11_refusalOfHeld_1 : ylk m_X11_refusalOfHeld.2.2.2.2.1 1 = some (.invokestatic 266) := by decide +kernel
theorem cd_X11_refusalOfHeld_4 : ylk m_X11_refusalOfHeld.2.2.2.2.1 4 = some (.ifCond .ne 5) := by decide +kernel
theorem cd_X11_refusalOfHeld_7 : ylk m_X11_refusalOfHeld.2.2.2.2.1 7 = some (.iconst (-1)) := by decide +kernel
theorem cd_X11_refusalOfHeld_8 : ylk m_X11_refusalOfHeld.2.2.2.2.1 8 = some (.ireturn) := by decide +kernel
theorem cd_X11_refusalOfHeld_9 : ylk m_X11_refusalOfHeld.2.2.2.2.1 9 = some (.aload_n 0) := by decide +kernel
theorem cd_X11_refusalOfHeld_10 : ylk m_X11_refusalOfHeld.2.2.2.2.1 10 = some (.getfield 28) := by decide +kernel
theorem cd_X11_refusalOfHeld_13 : ylk m_X11_refusalOfHeld.2.2.2.2.1 13 = some (.iload_n 1) := by decide +kernel
theorem cd_X11_refusalOfHeld_14 : ylk m_X11_refusalOfHeld.2.2.2.2.1 14 = some (.aaload) := by decide +kernel
theorem cd_X11_refusalOfHeld_15 : ylk m_X11_refusalOfHeld.2.2.2.2.1 15 = some (.getfield 357) := by decide +kernel
theorem cd_X11_refusalOfHeld_18 : ylk m_X11_refusalOfHeld.2.2.2.2.1 18 = some (.ifCond .ne 6) := by decide +kernel
theorem cd_X11_refusalOfHeld_21 : ylk m_X11_refusalOfHeld.2.2.2.2.1 21 = some (.bipush (-11)) := by decide +kernel
theorem cd_X11_refusalOfHeld_23 : ylk m_X11_refusalOfHeld.2.2.2.2.1 23 = some (.ireturn) := by decide +kernel
theorem cd_X11_refusalOfHeld_24 : ylk m_X11_refusalOfHeld.2.2.2.2.1 24 = some (.aload_n 0) := by decide +kernel
theorem cd_X11_refusalOfHeld_25 : ylk m_X11_refusalOfHeld.2.2.2.2.1 25 = some (.getfield 28) := by decide +kernel
theorem cd_X11_refusalOfHeld_28 : ylk m_X11_refusalOfHeld.2.2.2.2.1 28 = some (.iload_n 1) := by decide +kernel
theorem cd_X11_refusalOfHeld_29 : ylk m_X11_refusalOfHeld.2.2.2.2.1 29 = some (.aaload) := by decide +kernel
theorem cd_X11_refusalOfHeld_30 : ylk m_X11_refusalOfHeld.2.2.2.2.1 30 = some (.getfield 357) := by decide +kernel
theorem cd_X11_refusalOfHeld_33 : ylk m_X11_refusalOfHeld.2.2.2.2.1 33 = some (.iload_n 2) := by decide +kernel
theorem cd_X11_refusalOfHeld_34 : ylk m_X11_refusalOfHeld.2.2.2.2.1 34 = some (.if_icmp .ne 7) := by decide +kernel
theorem cd_X11_refusalOfHeld_37 : ylk m_X11_refusalOfHeld.2.2.2.2.1 37 = some (.iconst 0) := by decide +kernel
theorem cd_X11_refusalOfHeld_38 : ylk m_X11_refusalOfHeld.2.2.2.2.1 38 = some (.goto 5) := by decide +kernel
theorem cd_X11_refusalOfHeld_41 : ylk m_X11_refusalOfHeld.2.2.2.2.1 41 = some (.bipush (-12)) := by decide +kernel
theorem cd_X11_refusalOfHeld_43 : ylk m_X11_refusalOfHeld.2.2.2.2.1 43 = some (.ireturn) := by decide +kernel
noncomputable abbrev yb_X11_refusalOfHeld (C : yC) : ySt → Option (Option Value × yM) := yrn m_X11_refusalOfHeld C
theorem en_X11_refusalOfHeld (n : Nat) (A : yM) (v0 : Nat) (v1 : Int32) (v2 : Int32) : ycall (n + 1) 137 [.ref v0, .int v1, .int v2] A = (yi ((ycall n) 134 [.int v1] A)).bind (fun z1 => if z1.1 = 0 then (some (some (.int (-1 : Int32)), z1.2)) else (ygR z1.2 v0 10 4 (fun a2 => yrR z1.2 a2 v1 (fun a3 => ygI z1.2 a3 7 0 (fun x4 => if x4 = 0 then (some (some (.int (-11 : Int32)), z1.2)) else (ygR z1.2 v0 10 4 (fun a5 => yrR z1.2 a5 v1 (fun a6 => ygI z1.2 a6 7 0 (fun x7 => if x7 = v2 then (some (some (.int (0 : Int32)), z1.2)) else (some (some (.int (-12 : Int32)), z1.2))))))))))) := (ybig_blk 20 _).trans (z_iload_n cd_X11_refusalOfHeld_0 (j := 1) rfl rfl (p := 1) rfl (zgo rfl (z_cs1 cd_X11_refusalOfHeld_1 (zs (key := 799) (by decide)) cl_X11_c799 rfl rfl rfl rfl (p := 4) rfl (fun _ => (zgo rfl (z_if_ne cd_X11_refusalOfHeld_4 (p := 9) rfl (p2 := 7) rfl (zgo rfl (z_iconst cd_X11_refusalOfHeld_7 ki_m1 (p := 8) rfl (zgo rfl (z_iret cd_X11_refusalOfHeld_8 rfl)))) (zgo rfl (z_aload_n cd_X11_refusalOfHeld_9 (j := 0) rfl rfl (p := 10) rfl (zgo rfl (z_getR cd_X11_refusalOfHeld_10 fd_X11_28 (p := 13) rfl (fun _ => (zgo rfl (z_iload_n cd_X11_refusalOfHeld_13 (j := 1) rfl rfl (p := 14) rfl (zgo rfl (z_aaload cd_X11_refusalOfHeld_14 (p := 15) rfl (fun _ => (zgo rfl (z_getI cd_X11_refusalOfHeld_15 fd_X11_357 (p := 18) rfl (fun _ => (zgo rfl (z_if_ne cd_X11_refusalOfHeld_18 (p := 24) rfl (p2 := 21) rfl (zgo rfl (z_bipush cd_X11_refusalOfHeld_21 kb_m11 (p := 23) rfl (zgo rfl (z_iret cd_X11_refusalOfHeld_23 rfl)))) (zgo rfl (z_aload_n cd_X11_refusalOfHeld_24 (j := 0) rfl rfl (p := 25) rfl (zgo rfl (z_getR cd_X11_refusalOfHeld_25 fd_X11_28 (p := 28) rfl (fun _ => (zgo rfl (z_iload_n cd_X11_refusalOfHeld_28 (j := 1) rfl rfl (p := 29) rfl (zgo rfl (z_aaload cd_X11_refusalOfHeld_29 (p := 30) rfl (fun _ => (zgo rfl (z_getI cd_X11_refusalOfHeld_30 fd_X11_357 (p := 33) rfl (fun _ => (zgo rfl (z_iload_n cd_X11_refusalOfHeld_33 (j := 2) rfl rfl (p := 34) rfl (zgo rfl (z_ic_ne cd_X11_refusalOfHeld_34 (p := 41) rfl (p2 := 37) rfl (zgo rfl (z_iconst cd_X11_refusalOfHeld_37 ki_0 (p := 38) rfl (zgo rfl (z_goto cd_X11_refusalOfHeld_38 (p := 43) rfl (zgo rfl (z_iret cd_X11_refusalOfHeld_43 rfl)))))) (zgo rfl (z_bipush cd_X11_refusalOfHeld_41 kb_m12 (p := 43) rfl (zgo rfl (z_iret cd_X11_refusalOfHeld_43 rfl))))))))))))))))))))))))))))))))))))))))))
