theorem cd_X1_ripens_0 : ylk m_X1_ripens.2.2.2.2.1 0 = some (.aload_n 0) := by decide +kernel
theorem cd_X1_ripens_1 : ylk m_X1_ripens.2.2.2.2.1 1 = some (.iload_n 1) := by decide +kernel
theorem cd_X1_ripens_2 : ylk m_X1_ripens.2.2.2.2.1 2 = some (.iload_n 2) := by decide +kernel
theorem cd_X1_ripens_3 : ylk m_X1_ripens.2.2.2.2.1 3 = some (.invokespecial 7) := by decide +kernel
theorem cd_X1_ripens_6 : ylk m_X1_ripens.2.2.2.2.1 6 = some (.iconst 1) := by decide +kernel
theorem cd_X1_ripens_7 : ylk m_X1_ripens.2.2.2.2.1 7 = some (.iadd) := by decide +kernel
theorem cd_X1_ripens_8 : ylk m_X1_ripens.2.2.2.2.1 8 = some (.ireturn) := by decide +kernel
noncomputable abbrev yb_X1_ripens (C : yC) : ySt → Option (Option Value × yM) := yrn m_X1_ripens C
theorem en_X1_ripens (n : Nat) (A : yM) (v0 : Nat) (v1 : Int32) (v2 : Int32) : ycall (n + 1) 34 [.ref v0, .int v1, .int v2] A = (yi (yvt [(1, 37), (2, 37), (3, 37), (4, 37), (5, 37), (6, 37), (8, 37), (9, 37)] (ycall n) [.ref v0, .int v1, .int v2] A)).bind (fun z1 => some (some (.int (z1.1 + (1 : Int32))), z1.2)) := (ybig_blk 8 _).trans (z_aload_n cd_X1_ripens_0 (j := 0) rfl rfl (p := 1) rfl (zgo rfl (z_iload_n cd_X1_ripens_1 (j := 1) rfl rfl (p := 2) rfl (zgo rfl (z_iload_n cd_X1_ripens_2 (j := 2) rfl rfl (p := 3) rfl (zgo rfl (z_cv1 (vs := [.ref v0, .int v1, .int v2]) (rest := []) cd_X1_ripens_3 (zp (key := 23) (by decide)) cl_X1_c23 rfl rfl rfl rfl (p := 6) rfl (fun z1 => (zgo rfl (z_iconst cd_X1_ripens_6 ki_1 (p := 7) rfl (zgo rfl (z_iadd cd_X1_ripens_7 (p := 8) rfl (zgo rfl (z_iret cd_X1_ripens_8 rfl))))))))))))))
theorem cd_X1_marked_0 : ylk m_X1_marked.2.2.2.2.1 0 = some (.aload_n 0) := by decide +kernel
theorem cd_X1_marked_1 : ylk m_X1_marked.2.2.2.2.1 1 = some (.iload_n 1) := by decide +kernel
theorem cd_X1_marked_2 : ylk m_X1_marked.2.2.2.2.1 2 = some (.iload_n 2) := by decide +kernel
theorem cd_X1_marked_3 : ylk m_X1_marked.2.2.2.2.1 3 = some (.iload_n 3) := by decide +kernel
theorem cd_X1_marked_4 : ylk m_X1_marked.2.2.2.2.1 4 = some (.iload 4) := by decide +kernel
theorem cd_X1_marked_6 : ylk m_X1_marked.2.2.2.2.1 6 = some (.invokespecial 11) := by decide +kernel
theorem cd_X1_marked_9 : ylk m_X1_marked.2.2.2.2.1 9 = some (.iload 4) := by decide +kernel
theorem cd_X1_marked_11 : ylk m_X1_marked.2.2.2.2.1 11 = some (.iadd) := by decide +kernel
theorem cd_X1_marked_12 : ylk m_X1_marked.2.2.2.2.1 12 = some (.ireturn) := by decide +kernel
noncomputable abbrev yb_X1_marked (C : yC) : ySt → Option (Option Value × yM) := yrn m_X1_marked C
theorem en_X1_marked (n : Nat) (A : yM) (v0 : Nat) (v1 : Int32) (v2 : Int32) (v3 : Int32) (v4 : Int32) : ycall (n + 1) 35 [.ref v0, .int v1, .int v2, .int v3, .int v4] A = (yi (yvt [(1, 38), (2, 38), (3, 38), (4, 38), (5, 38), (6, 38), (8, 38), (9, 38)] (ycall n) [.ref v0, .int v1, .int v2, .int v3, .int v4] A)).bind (fun z1 => some (some (.int (z1.1 + v4)), z1.2)) := (ybig_blk 10 _).trans (z_aload_n cd_X1_marked_0 (j := 0) rfl rfl (p := 1) rfl (zgo rfl (z_iload_n cd_X1_marked_1 (j := 1) rfl rfl (p := 2) rfl (zgo rfl (z_iload_n cd_X1_marked_2 (j := 2) rfl rfl (p := 3) rfl (zgo rfl (z_iload_n cd_X1_marked_3 (j := 3) rfl rfl (p := 4) rfl (zgo rfl (z_iload cd_X1_marked_4 rfl (p := 6) rfl (zgo rfl (z_cv1 (vs := [.ref v0, .int v1, .int v2, .int v3, .int v4]) (rest := []) cd_X1_marked_6 (zp (key := 35) (by decide)) cl_X1_c35 rfl rfl rfl rfl (p := 9) rfl (fun z1 => (zgo rfl (z_iload cd_X1_marked_9 rfl (p := 11) rfl (zgo rfl (z_iadd cd_X1_marked_11 (p := 12) rfl (zgo rfl (z_iret cd_X1_marked_12 rfl))))))))))))))))))
theorem cd_X1_price_0 : ylk m_X1_price.2.2.2.2.1 0 = some (.aload_n 0) := by decide +kernel
theorem cd_X1_price_1 : ylk m_X1_price.2.2.2.2.1 1 = some (.iload_n 1) := by decide +kernel
theorem cd_X1_price_2 : ylk m_X1_price.2.2.2.2.1 2 = some (.invokespecial 15) := by decide +kernel
theorem cd_X1_price_5 : ylk m_X1_price.2.2.2.2.1 5 = some (.iconst 2) := by decide +kernel
theorem cd_X1_price_6 : ylk m_X1_price.2.2.2.2.1 6 = some (.isub) := by decide +kernel
theorem cd_X1_price_7 : ylk m_X1_price.2.2.2.2.1 7 = some (.ireturn) := by decide +kernel
noncomputable abbrev yb_X1_price (C : yC) : ySt → Option (Option Value × yM) := yrn m_X1_price C
theorem en_X1_price (n : Nat) (A : yM) (v0 : Nat) (v1 : Int32) : ycall (n + 1) 36 [.ref v0, .int v1] A = (yi (yvt [(1, 39), (2, 39), (3, 39), (4, 39), (5, 39), (6, 39), (8, 39), (9, 39)] (ycall n) [.ref v0, .int v1] A)).bind (fun z1 => some (some (.int (z1.1 - (2 : Int32))), z1.2)) := (ybig_blk 7 _).trans (z_aload_n cd_X1_price_0 (j := 0) rfl rfl (p := 1) rfl (zgo rfl (z_iload_n cd_X1_price_1 (j := 1) rfl rfl (p := 2) rfl (zgo rfl (z_cv1 (vs := [.ref v0, .int v1]) (rest := []) cd_X1_price_2 (zp (key := 47) (by decide)) cl_X1_c47 rfl rfl rfl rfl (p := 5) rfl (fun z1 => (zgo rfl (z_iconst cd_X1_price_5 ki_2 (p := 6) rfl (zgo rfl (z_isub cd_X1_price_6 (p := 7) rfl (zgo rfl (z_iret cd_X1_price_7 rfl))))))))))))
theorem cd_X2_ripens_0 : ylk m_X2_ripens.2.2.2.2.1 0 = some (.iconst 2) := by decide +kernel
theorem cd_X2_ripens_1 : ylk m_X2_ripens.2.2.2.2.1 1 = some (.ireturn) := by decide +kernel
noncomputable abbrev yb_X2_ripens (C : yC) : ySt → Option (Option Value × yM) := yrn m_X2_ripens C
theorem en_X2_ripens (n : Nat) (A : yM) (v0 : Nat) (v1 : Int32) (v2 : Int32) : ycall (n + 1) 37 [.ref v0, .int v1, .int v2] A = some (some (.int (2 : Int32)), A) := (ybig_blk 3 _).trans (z_iconst cd_X2_ripens_0 ki_2 (p := 1) rfl (zgo rfl (z_iret cd_X2_ripens_1 rfl)))
theorem cd_X2_marked_0 : ylk m_X2_marked.2.2.2.2.1 0 = some (.aload_n 0) := by decide +kernel
theorem cd_X2_marked_1 : ylk m_X2_marked.2.2.2.2.1 1 = some (.iload_n 1) := by decide +kernel
theorem cd_X2_marked_2 : ylk m_X2_marked.2.2.2.2.1 2 = some (.iload_n 2) := by decide +kernel
theorem cd_X2_marked_3 : ylk m_X2_marked.2.2.2.2.1 3 = some (.iload_n 3) := by decide +kernel
theorem cd_X2_marked_4 : ylk m_X2_marked.2.2.2.2.1 4 = some (.iload 4) := by decide +kernel
theorem cd_X2_marked_6 : ylk m_X2_marked.2.2.2.2.1 6 = some (.invokespecial 7) := by decide +kernel
theorem cd_X2_marked_9 : ylk m_X2_marked.2.2.2.2.1 9 = some (.iconst 2) := by decide +kernel
theorem cd_X2_marked_10 : ylk m_X2_marked.2.2.2.2.1 10 = some (.iload_n 2) := by decide +kernel
theorem cd_X2_marked_11 : ylk m_X2_marked.2.2.2.2.1 11 = some (.imul) := by decide +kernel
theorem cd_X2_marked_12 : ylk m_X2_marked.2.2.2.2.1 12 = some (.iadd) := by decide +kernel
theorem cd_X2_marked_13 : ylk m_X2_marked.2.2.2.2.1 13 = some (.ireturn) := by decide +kernel
noncomputable abbrev yb_X2_marked (C : yC) : ySt → Option (Option Value × yM) := yrn m_X2_marked C
theorem en_X2_marked (n : Nat) (A : yM) (v0 : Nat) (v1 : Int32) (v2 : Int32) (v3 : Int32) (v4 : Int32) : ycall (n + 1) 38 [.ref v0, .int v1, .int v2, .int v3, .int v4] A = (yi (yvt [(1, 61), (2, 61), (3, 61), (4, 61), (5, 61), (6, 61), (8, 61), (9, 61)] (ycall n) [.ref v0, .int v1, .int v2, .int v3, .int v4] A)).bind (fun z1 => some (some (.int (z1.1 + ((2 : Int32) * v2))), z1.2)) := (ybig_blk 12 _).trans (z_aload_n cd_X2_marked_0 (j := 0) rfl rfl (p := 1) rfl (zgo rfl (z_iload_n cd_X2_marked_1 (j := 1) rfl rfl (p := 2) rfl (zgo rfl (z_iload_n cd_X2_marked_2 (j := 2) rfl rfl (p := 3) rfl (zgo rfl (z_iload_n cd_X2_marked_3 (j := 3) rfl rfl (p := 4) rfl (zgo rfl (z_iload cd_X2_marked_4 rfl (p := 6) rfl (zgo rfl (z_cv1 (vs := [.ref v0, .int v1, .int v2, .int v3, .int v4]) (rest := []) cd_X2_marked_6 (zp (key := 23) (by decide)) cl_X2_c23 rfl rfl rfl rfl (p := 9) rfl (fun z1 => (zgo rfl (z_iconst cd_X2_marked_9 ki_2 (p := 10) rfl (zgo rfl (z_iload_n cd_X2_marked_10 (j := 2) rfl rfl (p := 11) rfl (zgo rfl (z_imul cd_X2_marked_11 (p := 12) rfl (zgo rfl (z_iadd cd_X2_marked_12 (p := 13) rfl (zgo rfl (z_iret cd_X2_marked_13 rfl))))))))))))))))))))))
theorem cd_X2_price_0 : ylk m_X2_price.2.2.2.2.1 0 = some (.iconst 5) := by decide +kernel
theorem cd_X2_price_1 : ylk m_X2_price.2.2.2.2.1 1 = some (.ireturn) := by decide +kernel
noncomputable abbrev yb_X2_price (C : yC) : ySt → Option (Option Value × yM) := yrn m_X2_price C
theorem en_X2_price (n : Nat) (A : yM) (v0 : Nat) (v1 : Int32) : ycall (n + 1) 39 [.ref v0, .int v1] A = some (some (.int (5 : Int32)), A) := (ybig_blk 3 _).trans (z_iconst cd_X2_price_0 ki_5 (p := 1) rfl (zgo rfl (z_iret cd_X2_price_1 rfl)))
theorem cd_X3_ripens_0 : ylk m_X3_ripens.2.2.2.2.1 0 = some (.iconst 2) := by decide +kernel
theorem cd_X3_ripens_1 : ylk m_X3_ripens.2.2.2.2.1 1 = some (.aload_n 0) := by decide +kernel
theorem cd_X3_ripens_2 : ylk m_X3_ripens.2.2.2.2.1 2 = some (.iload_n 1) := by decide +kernel
theorem cd_X3_ripens_3 : ylk m_X3_ripens.2.2.2.2.1 3 = some (.iload_n 2) := by decide +kernel
theorem cd_X3_ripens_4 : ylk m_X3_ripens.2.2.2.2.1 4 = some (.invokespecial 7) := by decide +kernel
theorem cd_X3_ripens_7 : ylk m_X3_ripens.2.2.2.2.1 7 = some (.imul) := by decide +kernel
theorem cd_X3_ripens_8 : ylk m_X3_ripens.2.2.2.2.1 8 = some (.ireturn) := by decide +kernel
noncomputable abbrev yb_X3_ripens (C : yC) : ySt → Option (Option Value × yM) := yrn m_X3_ripens C
theorem en_X3_ripens (n : Nat) (A : yM) (v0 : Nat) (v1 : Int32) (v2 : Int32) : ycall (n + 1) 40 [.ref v0, .int v1, .int v2] A = (yi (yvt [(1, 37), (2, 37), (3, 37), (4, 37), (5, 37), (6, 37), (8, 37), (9, 37)] (ycall n) [.ref v0, .int v1, .int v2] A)).bind (fun z1 => some (some (.int ((2 : Int32) * z1.1)), z1.2)) := (ybig_blk 8 _).trans (z_iconst cd_X3_ripens_0 ki_2 (p := 1) rfl (zgo rfl (z_aload_n cd_X3_ripens_1 (j := 0) rfl rfl (p := 2) rfl (zgo rfl (z_iload_n cd_X3_ripens_2 (j := 1) rfl rfl (p := 3) rfl (zgo rfl (z_iload_n cd_X3_ripens_3 (j := 2) rfl rfl (p := 4) rfl (zgo rfl (z_cv1 (vs := [.ref v0, .int v1, .int v2]) (rest := [.int (2 : Int32)]) cd_X3_ripens_4 (zp (key := 23) (by decide)) cl_X3_c23 rfl rfl rfl rfl (p := 7) rfl (fun z1 => (zgo rfl (z_imul cd_X3_ripens_7 (p := 8) rfl (zgo rfl (z_iret cd_X3_ripens_8 rfl))))))))))))))
theorem cd_X3_marked_0 : ylk m_X3_marked.2.2.2.2.1 0 = some (.aload_n 0) := by decide +kernel
theorem cd_X3_marked_1 : ylk m_X3_marked.2.2.2.2.1 1 = some (.iload_n 1) := by decide +kernel
theorem cd_X3_marked_2 : ylk m_X3_marked.2.2.2.2.1 2 = some (.iload_n 2) := by decide +kernel
theorem cd_X3_marked_3 : ylk m_X3_marked.2.2.2.2.1 3 = some (.iload_n 3) := by decide +kernel
theorem cd_X3_marked_4 : ylk m_X3_marked.2.2.2.2.1 4 = some (.iload 4) := by decide +kernel
theorem cd_X3_marked_6 : ylk m_X3_marked.2.2.2.2.1 6 = some (.invokespecial 11) := by decide +kernel
theorem cd_X3_marked_9 : ylk m_X3_marked.2.2.2.2.1 9 = some (.iload_n 3) := by decide +kernel
theorem cd_X3_marked_10 : ylk m_X3_marked.2.2.2.2.1 10 = some (.iadd) := by decide +kernel
theorem cd_X3_marked_11 : ylk m_X3_marked.2.2.2.2.1 11 = some (.ireturn) := by decide +kernel
noncomputable abbrev yb_X3_marked (C : yC) : ySt → Option (Option Value × yM) := yrn m_X3_marked C
theorem en_X3_marked (n : Nat) (A : yM) (v0 : Nat) (v1 : Int32) (v2 : Int32) (v3 : Int32) (v4 : Int32) : ycall (n + 1) 41 [.ref v0, .int v1, .int v2, .int v3, .int v4] A = (yi (yvt [(1, 38), (2, 38), (3, 38), (4, 38), (5, 38), (6, 38), (8, 38), (9, 38)] (ycall n) [.ref v0, .int v1, .int v2, .int v3, .int v4] A)).bind (fun z1 => some (some (.int (z1.1 + v3)), z1.2)) := (ybig_blk 10 _).trans (z_aload_n cd_X3_marked_0 (j := 0) rfl rfl (p := 1) rfl (zgo rfl (z_iload_n cd_X3_marked_1 (j := 1) rfl rfl (p := 2) rfl (zgo rfl (z_iload_n cd_X3_marked_2 (j := 2) rfl rfl (p := 3) rfl (zgo rfl (z_iload_n cd_X3_marked_3 (j := 3) rfl rfl (p := 4) rfl (zgo rfl (z_iload cd_X3_marked_4 rfl (p := 6) rfl (zgo rfl (z_cv1 (vs := [.ref v0, .int v1, .int v2, .int v3, .int v4]) (rest := []) cd_X3_marked_6 (zp (key := 35) (by decide)) cl_X3_c35 rfl rfl rfl rfl (p := 9) rfl (fun z1 => (zgo rfl (z_iload_n cd_X3_marked_9 (j := 3) rfl rfl (p := 10) rfl (zgo rfl (z_iadd cd_X3_marked_10 (p := 11) rfl (zgo rfl (z_iret cd_X3_marked_11 rfl))))))))))))))))))
theorem cd_X3_price_0 : ylk m_X3_price.2.2.2.2.1 0 = some (.iconst 2) := by decide +kernel
theorem cd_X3_price_1 : ylk m_X3_price.2.2.2.2.1 1 = some (.aload_n 0) := by decide +kernel
theorem cd_X3_price_2 : ylk m_X3_price.2.2.2.2.1 2 = some (.iload_n 1) := by decide +kernel
theorem cd_X3_price_3 : ylk m_X3_price.2.2.2.2.1 3 = some (.invokespecial 15) := by decide +kernel
theorem cd_X3_price_6 : ylk m_X3_price.2.2.2.2.1 6 = some (.imul) := by decide +kernel
theorem cd_X3_price_7 : ylk m_X3_price.2.2.2.2.1 7 = some (.ireturn) := by decide +kernel
noncomputable abbrev yb_X3_price (C : yC) : ySt → Option (Option Value × yM) := yrn m_X3_price C
theorem en_X3_price (n : Nat) (A : yM) (v0 : Nat) (v1 : Int32) : ycall (n + 1) 42 [.ref v0, .int v1] A = (yi (yvt [(1, 39), (2, 39), (3, 39), (4, 39), (5, 39), (6, 39), (8, 39), (9, 39)] (ycall n) [.ref v0, .int v1] A)).bind (fun z1 => some (some (.int ((2 : Int32) * z1.1)), z1.2)) := (ybig_blk 7 _).trans (z_iconst cd_X3_price_0 ki_2 (p := 1) rfl (zgo rfl (z_aload_n cd_X3_price_1 (j := 0) rfl rfl (p := 2) rfl (zgo rfl (z_iload_n cd_X3_price_2 (j := 1) rfl rfl (p := 3) rfl (zgo rfl (z_cv1 (vs := [.ref v0, .int v1]) (rest := [.int (2 : Int32)]) cd_X3_price_3 (zp (key := 47) (by decide)) cl_X3_c47 rfl rfl rfl rfl (p := 6) rfl (fun z1 => (zgo rfl (z_imul cd_X3_price_6 (p := 7) rfl (zgo rfl (z_iret cd_X3_price_7 rfl))))))))))))
theorem cd_X4_ripens_0 : ylk m_X4_ripens.2.2.2.2.1 0 = some (.iload_n 2) := by decide +kernel
theorem cd_X4_ripens_1 : ylk m_X4_ripens.2.2.2.2.1 1 = some (.iconst 1) := by decide +kernel
theorem cd_X4_ripens_2 : ylk m_X4_ripens.2.2.2.2.1 2 = some (.iand) := by decide +kernel
theorem cd_X4_ripens_3 : ylk m_X4_ripens.2.2.2.2.1 3 = some (.ireturn) := by decide +kernel
noncomputable abbrev yb_X4_ripens (C : yC) : ySt → Option (Option Value × yM) := yrn m_X4_ripens C
theorem en_X4_ripens (n : Nat) (A : yM) (v0 : Nat) (v1 : Int32) (v2 : Int32) : ycall (n + 1) 43 [.ref v0, .int v1, .int v2] A = some (some (.int (v2 &&& (1 : Int32))), A) := (ybig_blk 5 _).trans (z_iload_n cd_X4_ripens_0 (j := 2) rfl rfl (p := 1) rfl (zgo rfl (z_iconst cd_X4_ripens_1 ki_1 (p := 2) rfl (zgo rfl (z_iand cd_X4_ripens_2 (p := 3) rfl (zgo rfl (z_iret cd_X4_ripens_3 rfl)))))))
theorem cd_X4_marked_0 : ylk m_X4_marked.2.2.2.2.1 0 = some (.iload_n 1) := by decide +kernel
theorem cd_X4_marked_1 : ylk m_X4_marked.2.2.2.2.1 1 = some (.iconst 2) := by decide +kernel
theorem cd_X4_marked_2 : ylk m_X4_marked.2.2.2.2.1 2 = some (.idiv) := by decide +kernel
theorem cd_X4_marked_3 : ylk m_X4_marked.2.2.2.2.1 3 = some (.ireturn) := by decide +kernel
noncomputable abbrev yb_X4_marked (C : yC) : ySt → Option (Option Value × yM) := yrn m_X4_marked C
theorem en_X4_marked (n : Nat) (A : yM) (v0 : Nat) (v1 : Int32) (v2 : Int32) (v3 : Int32) (v4 : Int32) : ycall (n + 1) 44 [.ref v0, .int v1, .int v2, .int v3, .int v4] A = if (2 : Int32) = 0 then none else (some (some (.int (v1 / (2 : Int32))), A)) := (ybig_blk 5 _).trans (z_iload_n cd_X4_marked_0 (j := 1) rfl rfl (p := 1) rfl (zgo rfl (z_iconst cd_X4_marked_1 ki_2 (p := 2) rfl (zgo rfl (z_idiv cd_X4_marked_2 (p := 3) rfl (zgo rfl (z_iret cd_X4_marked_3 rfl)))))))
theorem cd_X4_price_0 : ylk m_X4_price.2.2.2.2.1 0 = some (.aload_n 0) := by decide +kernel
theorem cd_X4_price_1 : ylk m_X4_price.2.2.2.2.1 1 = some (.iload_n 1) := by decide +kernel
theorem cd_X4_price_2 : ylk m_X4_price.2.2.2.2.1 2 = some (.invokespecial 7) := by decide +kernel
theorem cd_X4_price_5 : ylk m_X4_price.2.2.2.2.1 5 = some (.iload_n 1) := by decide +kernel
theorem cd_X4_price_6 : ylk m_X4_price.2.2.2.2.1 6 = some (.iadd) := by decide +kernel
theorem cd_X4_price_7 : ylk m_X4_price.2.2.2.2.1 7 = some (.ireturn) := by decide +kernel
noncomputable abbrev yb_X4_price (C : yC) : ySt → Option (Option Value × yM) := yrn m_X4_price C
theorem en_X4_price (n : Nat) (A : yM) (v0 : Nat) (v1 : Int32) : ycall (n + 1) 45 [.ref v0, .int v1] A = (yi (yvt [(1, 62), (2, 62), (3, 62), (4, 62), (5, 62), (6, 62), (8, 62), (9, 62)] (ycall n) [.ref v0, .int v1] A)).bind (fun z1 => some (some (.int (z1.1 + v1)), z1.2)) := (ybig_blk 7 _).trans (z_aload_n cd_X4_price_0 (j := 0) rfl rfl (p := 1) rfl (zgo rfl (z_iload_n cd_X4_price_1 (j := 1) rfl rfl (p := 2) rfl (zgo rfl (z_cv1 (vs := [.ref v0, .int v1]) (rest := []) cd_X4_price_2 (zp (key := 23) (by decide)) cl_X4_c23 rfl rfl rfl rfl (p := 5) rfl (fun z1 => (zgo rfl (z_iload_n cd_X4_price_5 (j := 1) rfl rfl (p := 6) rfl (zgo rfl (z_iadd cd_X4_price_6 (p := 7) rfl (zgo rfl (z_iret cd_X4_price_7 rfl))))))))))))
theorem cd_X5_ripens_0 : ylk m_X5_ripens.2.2.2.2.1 0 = some (.aload_n 0) := by decide +kernel
theorem cd_X5_ripens_1 : ylk m_X5_ripens.2.2.2.2.1 1 = some (.iload_n 1) := by decide +kernel
theorem cd_X5_ripens_2 : ylk m_X5_ripens.2.2.2.2.1 2 = some (.iload_n 2) := by decide +kernel
theorem cd_X5_ripens_3 : ylk m_X5_ripens.2.2.2.2.1 3 = some (.invokespecial 7) := by decide +kernel
theorem cd_X5_ripens_6 : ylk m_X5_ripens.2.2.2.2.1 6 = some (.iconst 2) := by decide +kernel
theorem cd_X5_ripens_7 : ylk m_X5_ripens.2.2.2.2.1 7 = some (.idiv) := by decide +kernel
theorem cd_X5_ripens_8 : ylk m_X5_ripens.2.2.2.2.1 8 = some (.ireturn) := by decide +kernel
noncomputable abbrev yb_X5_ripens (C : yC) : ySt → Option (Option Value × yM) := yrn m_X5_ripens C
theorem en_X5_ripens (n : Nat) (A : yM) (v0 : Nat) (v1 : Int32) (v2 : Int32) : ycall (n + 1) 46 [.ref v0, .int v1, .int v2] A = (yi (yvt [(1, 40), (2, 40), (3, 40), (4, 40), (5, 40), (6, 40), (8, 40), (9, 40)] (ycall n) [.ref v0, .int v1, .int v2] A)).bind (fun z1 => if (2 : Int32) = 0 then none else (some (some (.int (z1.1 / (2 : Int32))), z1.2))) := (ybig_blk 8 _).trans (z_aload_n cd_X5_ripens_0 (j := 0) rfl rfl (p := 1) rfl (zgo rfl (z_iload_n cd_X5_ripens_1 (j := 1) rfl rfl (p := 2) rfl (zgo rfl (z_iload_n cd_X5_ripens_2 (j := 2) rfl rfl (p := 3) rfl (zgo rfl (z_cv1 (vs := [.ref v0, .int v1, .int v2]) (rest := []) cd_X5_ripens_3 (zp (key := 23) (by decide)) cl_X5_c23 rfl rfl rfl rfl (p := 6) rfl (fun z1 => (zgo rfl (z_iconst cd_X5_ripens_6 ki_2 (p := 7) rfl (zgo rfl (z_idiv cd_X5_ripens_7 (p := 8) rfl (zgo rfl (z_iret cd_X5_ripens_8 rfl))))))))))))))
theorem cd_X5_marked_0 : ylk m_X5_marked.2.2.2.2.1 0 = some (.iconst 2) := by decide +kernel
theorem cd_X5_marked_1 : ylk m_X5_marked.2.2.2.2.1 1 = some (.iload_n 3) := by decide +kernel
theorem cd_X5_marked_2 : ylk m_X5_marked.2.2.2.2.1 2 = some (.imul) := by decide +kernel
theorem cd_X5_marked_3 : ylk m_X5_marked.2.2.2.2.1 3 = some (.ireturn) := by decide +kernel
noncomputable abbrev yb_X5_marked (C : yC) : ySt → Option (Option Value × yM) := yrn m_X5_marked C
theorem en_X5_marked (n : Nat) (A : yM) (v0 : Nat) (v1 : Int32) (v2 : Int32) (v3 : Int32) (v4 : Int32) : ycall (n + 1) 47 [.ref v0, .int v1, .int v2, .int v3, .int v4] A = some (some (.int ((2 : Int32) * v3)), A) := (ybig_blk 5 _).trans (z_iconst cd_X5_marked_0 ki_2 (p := 1) rfl (zgo rfl (z_iload_n cd_X5_marked_1 (j := 3) rfl rfl (p := 2) rfl (zgo rfl (z_imul cd_X5_marked_2 (p := 3) rfl (zgo rfl (z_iret cd_X5_marked_3 rfl)))))))
theorem cd_X5_price_0 : ylk m_X5_price.2.2.2.2.1 0 = some (.aload_n 0) := by decide +kernel
theorem cd_X5_price_1 : ylk m_X5_price.2.2.2.2.1 1 = some (.iload_n 1) := by decide +kernel
theorem cd_X5_price_2 : ylk m_X5_price.2.2.2.2.1 2 = some (.invokespecial 11) := by decide +kernel
theorem cd_X5_price_5 : ylk m_X5_price.2.2.2.2.1 5 = some (.iload_n 1) := by decide +kernel
theorem cd_X5_price_6 : ylk m_X5_price.2.2.2.2.1 6 = some (.iadd) := by decide +kernel
theorem cd_X5_price_7 : ylk m_X5_price.2.2.2.2.1 7 = some (.ireturn) := by decide +kernel
noncomputable abbrev yb_X5_price (C : yC) : ySt → Option (Option Value × yM) := yrn m_X5_price C
theorem en_X5_price (n : Nat) (A : yM) (v0 : Nat) (v1 : Int32) : ycall (n + 1) 48 [.ref v0, .int v1] A = (yi (yvt [(1, 42), (2, 42), (3, 42), (4, 42), (5, 42), (6, 42), (8, 42), (9, 42)] (ycall n) [.ref v0, .int v1] A)).bind (fun z1 => some (some (.int (z1.1 + v1)), z1.2)) := (ybig_blk 7 _).trans (z_aload_n cd_X5_price_0 (j := 0) rfl rfl (p := 1) rfl (zgo rfl (z_iload_n cd_X5_price_1 (j := 1) rfl rfl (p := 2) rfl (zgo rfl (z_cv1 (vs := [.ref v0, .int v1]) (rest := []) cd_X5_price_2 (zp (key := 35) (by decide)) cl_X5_c35 rfl rfl rfl rfl (p := 5) rfl (fun z1 => (zgo rfl (z_iload_n cd_X5_price_5 (j := 1) rfl rfl (p := 6) rfl (zgo rfl (z_iadd cd_X5_price_6 (p := 7) rfl (zgo rfl (z_iret cd_X5_price_7 rfl))))))))))))
theorem cd_X6_ripens_0 : ylk m_X6_ripens.2.2.2.2.1 0 = some (.iconst 0) := by decide +kernel
theorem cd_X6_ripens_1 : ylk m_X6_ripens.2.2.2.2.1 1 = some (.ireturn) := by decide +kernel
noncomputable abbrev yb_X6_ripens (C : yC) : ySt → Option (Option Value × yM) := yrn m_X6_ripens C
theorem en_X6_ripens (n : Nat) (A : yM) (v0 : Nat) (v1 : Int32) (v2 : Int32) : ycall (n + 1) 49 [.ref v0, .int v1, .int v2] A = some (some (.int (0 : Int32)), A) := (ybig_blk 3 _).trans (z_iconst cd_X6_ripens_0 ki_0 (p := 1) rfl (zgo rfl (z_iret cd_X6_ripens_1 rfl)))
theorem cd_X6_marked_0 : ylk m_X6_marked.2.2.2.2.1 0 = some (.iconst 0) := by decide +kernel
theorem cd_X6_marked_1 : ylk m_X6_marked.2.2.2.2.1 1 = some (.ireturn) := by decide +kernel
noncomputable abbrev yb_X6_marked (C : yC) : ySt → Option (Option Value × yM) := yrn m_X6_marked C
theorem en_X6_marked (n : Nat) (A : yM) (v0 : Nat) (v1 : Int32) (v2 : Int32) (v3 : Int32) (v4 : Int32) : ycall (n + 1) 50 [.ref v0, .int v1, .int v2, .int v3, .int v4] A = some (some (.int (0 : Int32)), A) := (ybig_blk 3 _).trans (z_iconst cd_X6_marked_0 ki_0 (p := 1) rfl (zgo rfl (z_iret cd_X6_marked_1 rfl)))
theorem cd_X6_price_0 : ylk m_X6_price.2.2.2.2.1 0 = some (.iconst 0) := by decide +kernel
theorem cd_X6_price_1 : ylk m_X6_price.2.2.2.2.1 1 = some (.ireturn) := by decide +kernel
noncomputable abbrev yb_X6_price (C : yC) : ySt → Option (Option Value × yM) := yrn m_X6_price C
theorem en_X6_price (n : Nat) (A : yM) (v0 : Nat) (v1 : Int32) : ycall (n + 1) 51 [.ref v0, .int v1] A = some (some (.int (0 : Int32)), A) := (ybig_blk 3 _).trans (z_iconst cd_X6_price_0 ki_0 (p := 1) rfl (zgo rfl (z_iret cd_X6_price_1 rfl)))
theorem cd_X7_holdNothing_0 : ylk m_X7_holdNothing.2.2.2.2.1 0 = some (.aload_n 0) := by decide +kernel
theorem cd_X7_holdNothing_1 : ylk m_X7_holdNothing.2.2.2.2.1 1 = some (.iconst 0) := by decide +kernel
theorem cd_X7_holdNothing_2 : ylk m_X7_holdNothing.2.2.2.2.1 2 = some (.putfield 11) := by decide +kernel
theorem cd_X7_holdNothing_5 : ylk m_X7_holdNothing.2.2.2.2.1 5 = some (.return_) := by decide +kernel
noncomputable abbrev yb_X7_holdNothing (C : yC) : ySt → Option (Option Value × yM) := yrn m_X7_holdNothing C
theorem en_X7_holdNothing (n : Nat) (A : yM) (v0 : Nat) : ycall (n + 1) 52 [.ref v0] A = ypI A v0 7 0 (0 : Int32) (fun A1 => some (none, A1)) := (ybig_blk 5 _).trans (z_aload_n cd_X7_holdNothing_0 (j := 0) rfl rfl (p := 1) rfl (zgo rfl (z_iconst cd_X7_holdNothing_1 ki_0 (p := 2) rfl (zgo rfl (z_putI cd_X7_holdNothing_2 fd_X7_11 (p := 5) rfl (fun A1 => (zgo rfl (z_ret cd_X7_holdNothing_5 rfl))))))))
theorem cd_X7_holdOne_0 : ylk m_X7_holdOne.2.2.2.2.1 0 = some (.aload_n 0) := by decide +kernel
theorem cd_X7_holdOne_1 : ylk m_X7_holdOne.2.2.2.2.1 1 = some (.iconst 1) := by decide +kernel
theorem cd_X7_holdOne_2 : ylk m_X7_holdOne.2.2.2.2.1 2 = some (.putfield 11) := by decide +kernel
theorem cd_X7_holdOne_5 : ylk m_X7_holdOne.2.2.2.2.1 5 = some (.aload_n 0) := by decide +kernel
theorem cd_X7_holdOne_6 : ylk m_X7_holdOne.2.2.2.2.1 6 = some (.iload_n 1) := by decide +kernel
theorem cd_X7_holdOne_7 : ylk m_X7_holdOne.2.2.2.2.1 7 = some (.putfield 19) := by decide +kernel
theorem cd_X7_holdOne_10 : ylk m_X7_holdOne.2.2.2.2.1 10 = some (.aload_n 0) := by decide +kernel
theorem cd_X7_holdOne_11 : ylk m_X7_holdOne.2.2.2.2.1 11 = some (.iload_n 2) := by decide +kernel
theorem cd_X7_holdOne_12 : ylk m_X7_holdOne.2.2.2.2.1 12 = some (.putfield 22) := by decide +kernel
theorem cd_X7_holdOne_15 : ylk m_X7_holdOne.2.2.2.2.1 15 = some (.return_) := by decide +kernel
noncomputable abbrev yb_X7_holdOne (C : yC) : ySt → Option (Option Value × yM) := yrn m_X7_holdOne C
theorem en_X7_holdOne (n : Nat) (A : yM) (v0 : Nat) (v1 : Int32) (v2 : Int32) : ycall (n + 1) 53 [.ref v0, .int v1, .int v2] A = ypI A v0 7 0 (1 : Int32) (fun A1 => ypI A1 v0 7 1 v1 (fun A2 => ypI A2 v0 7 2 v2 (fun A3 => some (none, A3)))) := (ybig_blk 11 _).trans (z_aload_n cd_X7_holdOne_0 (j := 0) rfl rfl (p := 1) rfl (zgo rfl (z_iconst cd_X7_holdOne_1 ki_1 (p := 2) rfl (zgo rfl (z_putI cd_X7_holdOne_2 fd_X7_11 (p := 5) rfl (fun A1 => (zgo rfl (z_aload_n cd_X7_holdOne_5 (j := 0) rfl rfl (p := 6) rfl (zgo rfl (z_iload_n cd_X7_holdOne_6 (j := 1) rfl rfl (p := 7) rfl (zgo rfl (z_putI cd_X7_holdOne_7 fd_X7_19 (p := 10) rfl (fun A2 => (zgo rfl (z_aload_n cd_X7_holdOne_10 (j := 0) rfl rfl (p := 11) rfl (zgo rfl (z_iload_n cd_X7_holdOne_11 (j := 2) rfl rfl (p := 12) rfl (zgo rfl (z_putI cd_X7_holdOne_12 fd_X7_22 (p := 15) rfl (fun A3 => (zgo rfl (z_ret cd_X7_holdOne_15 rfl))))))))))))))))))))))
theorem cd_X7_holdRow_0 : ylk m_X7_holdRow.2.2.2.2.1 0 = some (.aload_n 0) := by decide +kernel
theorem cd_X7_holdRow_1 : ylk m_X7_holdRow.2.2.2.2.1 1 = some (.iconst 2) := by decide +kernel
theorem cd_X7_holdRow_2 : ylk m_X7_holdRow.2.2.2.2.1 2 = some (.putfield 11) := by decide +kernel
theorem cd_X7_holdRow_5 : ylk m_X7_holdRow.2.2.2.2.1 5 = some (.aload_n 0) := by decide +kernel
theorem cd_X7_holdRow_6 : ylk m_X7_holdRow.2.2.2.2.1 6 = some (.iload_n 1) := by decide +kernel
theorem cd_X7_holdRow_7 : ylk m_X7_holdRow.2.2.2.2.1 7 = some (.putfield 25) := by decide +kernel
theorem cd_X7_holdRow_10 : ylk m_X7_holdRow.2.2.2.2.1 10 = some (.aload_n 0) := by decide +kernel
theorem cd_X7_holdRow_11 : ylk m_X7_holdRow.2.2.2.2.1 11 = some (.iload_n 2) := by decide +kernel
theorem cd_X7_holdRow_12 : ylk m_X7_holdRow.2.2.2.2.1 12 = some (.putfield 28) := by decide +kernel
theorem cd_X7_holdRow_15 : ylk m_X7_holdRow.2.2.2.2.1 15 = some (.iconst 0) := by decide +kernel
theorem cd_X7_holdRow_16 : ylk m_X7_holdRow.2.2.2.2.1 16 = some (.istore_n 3) := by decide +kernel
theorem cd_X7_holdRow_17 : ylk m_X7_holdRow.2.2.2.2.1 17 = some (.iload_n 3) := by decide +kernel
theorem cd_X7_holdRow_18 : ylk m_X7_holdRow.2.2.2.2.1 18 = some (.bipush 100) := by decide +kernel
theorem cd_X7_holdRow_20 : ylk m_X7_holdRow.2.2.2.2.1 20 = some (.if_icmp .ge 16) := by decide +kernel
theorem cd_X7_holdRow_23 : ylk m_X7_holdRow.2.2.2.2.1 23 = some (.aload_n 0) := by decide +kernel
theorem cd_X7_holdRow_24 : ylk m_X7_holdRow.2.2.2.2.1 24 = some (.getfield 15) := by decide +kernel
theorem cd_X7_holdRow_27 : ylk m_X7_holdRow.2.2.2.2.1 27 = some (.iload_n 3) := by decide +kernel
theorem cd_X7_holdRow_28 : ylk m_X7_holdRow.2.2.2.2.1 28 = some (.iconst 0) := by decide +kernel
theorem cd_X7_holdRow_29 : ylk m_X7_holdRow.2.2.2.2.1 29 = some (.iastore) := by decide +kernel
theorem cd_X7_holdRow_30 : ylk m_X7_holdRow.2.2.2.2.1 30 = some (.iinc 3 1) := by decide +kernel
theorem cd_X7_holdRow_33 : ylk m_X7_holdRow.2.2.2.2.1 33 = some (.goto (-16)) := by decide +kernel
theorem cd_X7_holdRow_36 : ylk m_X7_holdRow.2.2.2.2.1 36 = some (.return_) := by decide +kernel
noncomputable abbrev yb_X7_holdRow (C : yC) : ySt → Option (Option Value × yM) := yrn m_X7_holdRow C
theorem en_X7_holdRow (n : Nat) (A : yM) (v0 : Nat) (v1 : Int32) (v2 : Int32) : ycall (n + 1) 54 [.ref v0, .int v1, .int v2] A = ypI A v0 7 0 (2 : Int32) (fun A1 => ypI A1 v0 7 3 v1 (fun A2 => ypI A2 v0 7 4 v2 (fun A3 => yb_X7_holdRow (ycall n) (17, [some (.ref v0), none, none, some (.int (0 : Int32))], [], A3)))) := (ybig_blk 12 _).trans (z_aload_n cd_X7_holdRow_0 (j := 0) rfl rfl (p := 1) rfl (zgo rfl (z_iconst cd_X7_holdRow_1 ki_2 (p := 2) rfl (zgo rfl (z_putI cd_X7_holdRow_2 fd_X7_11 (p := 5) rfl (fun A1 => (zgo rfl (z_aload_n cd_X7_holdRow_5 (j := 0) rfl rfl (p := 6) rfl (zgo rfl (z_iload_n cd_X7_holdRow_6 (j := 1) rfl rfl (p := 7) rfl (zgo rfl (z_putI cd_X7_holdRow_7 fd_X7_25 (p := 10) rfl (fun A2 => (zgo rfl (z_aload_n cd_X7_holdRow_10 (j := 0) rfl rfl (p := 11) rfl (zgo rfl (z_iload_n cd_X7_holdRow_11 (j := 2) rfl rfl (p := 12) rfl (zgo rfl (z_putI cd_X7_holdRow_12 fd_X7_28 (p := 15) rfl (fun A3 => (zgo rfl (z_iconst cd_X7_holdRow_15 ki_0 (p := 16) rfl (zgo rfl (z_istore_n cd_X7_holdRow_16 (j := 3) (L1 := [some (.ref v0), some (.int v1), some (.int v2), some (.int (0 : Int32))]) rfl rfl (p := 17) rfl (zcut (p := 17) (L1 := [some (.ref v0), none, none, some (.int (0 : Int32))]) rfl rfl)))))))))))))))))))))))))
theorem bk_X7_holdRow_17 (C : yC) (A : yM) (v0 : Nat) (v3 : Int32) : yb_X7_holdRow C (17, [some (.ref v0), none, none, some (.int v3)], [], A) = if (100 : Int32) ≤ v3 then (some (none, A)) else (ygR A v0 7 5 (fun a1 => ywr A a1 v3 (0 : Int32) (fun A2 => yb_X7_holdRow C (17, [some (.ref v0), none, none, some (.int (v3 + (1 : Int32)))], [], A2)))) := (ybig_blk 11 _).trans (z_iload_n cd_X7_holdRow_17 (j := 3) rfl rfl (p := 18) rfl (zgo rfl (z_bipush cd_X7_holdRow_18 kb_100 (p := 20) rfl (zgo rfl (z_ic_ge cd_X7_holdRow_20 (p := 36) rfl (p2 := 23) rfl (zgo rfl (z_ret cd_X7_holdRow_36 rfl)) (zgo rfl (z_aload_n cd_X7_holdRow_23 (j := 0) rfl rfl (p := 24) rfl (zgo rfl (z_getR cd_X7_holdRow_24 fd_X7_15 (p := 27) rfl (fun a1 => (zgo rfl (z_iload_n cd_X7_holdRow_27 (j := 3) rfl rfl (p := 28) rfl (zgo rfl (z_iconst cd_X7_holdRow_28 ki_0 (p := 29) rfl (zgo rfl (z_iastore cd_X7_holdRow_29 (p := 30) rfl (fun A2 => (zgo rfl (z_iinc cd_X7_holdRow_30 ki_1 (L1 := [some (.ref v0), none, none, some (.int (v3 + (1 : Int32)))]) rfl rfl (p := 33) rfl (zgo rfl (z_goto cd_X7_holdRow_33 (p := 17) rfl (zcut (p := 17) (L1 := [some (.ref v0), none, none, some (.int (v3 + (1 : Int32)))]) rfl rfl))))))))))))))))))))))
theorem cd_X7_hasPlace_0 : ylk m_X7_hasPlace.2.2.2.2.1 0 = some (.iload_n 1) := by decide +kernel
theorem cd_X7_hasPlace_1 : ylk m_X7_hasPlace.2.2.2.2.1 1 = some (.ifCond .lt 15) := by decide +kernel
theorem cd_X7_hasPlace_4 : ylk m_X7_hasPlace.2.2.2.2.1 4 = some (.iload_n 1) := by decide +kernel
theorem cd_X7_hasPlace_5 : ylk m_X7_hasPlace.2.2.2.2.1 5 = some (.aload_n 0) := by decide +kernel
theorem cd_X7_hasPlace_6 : ylk m_X7_hasPlace.2.2.2.2.1 6 = some (.getfield 28) := by decide +kernel
theorem cd_X7_hasPlace_9 : ylk m_X7_hasPlace.2.2.2.2.1 9 = some (.if_icmp .ge 7) := by decide +kernel
theorem cd_X7_hasPlace_12 : ylk m_X7_hasPlace.2.2.2.2.1 12 = some (.iconst 1) := by decide +kernel
theorem cd_X7_hasPlace_13 : ylk m_X7_hasPlace.2.2.2.2.1 13 = some (.goto 4) := by decide +kernel
theorem cd_X7_hasPlace_16 : ylk m_X7_hasPlace.2.2.2.2.1 16 = some (.iconst 0) := by decide +kernel
theorem cd_X7_hasPlace_17 : ylk m_X7_hasPlace.2.2.2.2.1 17 = some (.ireturn) := by decide +kernel
noncomputable abbrev yb_X7_hasPlace (C : yC) : ySt → Option (Option Value × yM) := yrn m_X7_hasPlace C
theorem en_X7_hasPlace (n : Nat) (A : yM) (v0 : Nat) (v1 : Int32) : ycall (n + 1) 55 [.ref v0, .int v1] A = if v1 < 0 then (if (0 : Int32) = 0 ∨ (0 : Int32) = 1 then some (some (.int (0 : Int32)), A) else none) else (ygI A v0 7 4 (fun x1 => if x1 ≤ v1 then (if (0 : Int32) = 0 ∨ (0 : Int32) = 1 then some (some (.int (0 : Int32)), A) else none) else (if (1 : Int32) = 0 ∨ (1 : Int32) = 1 then some (some (.int (1 : Int32)), A) else none))) := (ybig_blk 10 _).trans (z_iload_n cd_X7_hasPlace_0 (j := 1) rfl rfl (p := 1) rfl (zgo rfl (z_if_lt cd_X7_hasPlace_1 (p := 16) rfl (p2 := 4) rfl (zgo rfl (z_iconst cd_X7_hasPlace_16 ki_0 (p := 17) rfl (zgo rfl (z_zret cd_X7_hasPlace_17 rfl)))) (zgo rfl (z_iload_n cd_X7_hasPlace_4 (j := 1) rfl rfl (p := 5) rfl (zgo rfl (z_aload_n cd_X7_hasPlace_5 (j := 0) rfl rfl (p := 6) rfl (zgo rfl (z_getI cd_X7_hasPlace_6 fd_X7_28 (p := 9) rfl (fun x1 => (zgo rfl (z_ic_ge cd_X7_hasPlace_9 (p := 16) rfl (p2 := 12) rfl (zgo rfl (z_iconst cd_X7_hasPlace_16 ki_0 (p := 17) rfl (zgo rfl (z_zret cd_X7_hasPlace_17 rfl)))) (zgo rfl (z_iconst cd_X7_hasPlace_12 ki_1 (p := 13) rfl (zgo rfl (z_goto cd_X7_hasPlace_13 (p := 17) rfl (zgo rfl (z_zret cd_X7_hasPlace_17 rfl))))))))))))))))))
theorem cd_X7_hasPlaces_0 : ylk m_X7_hasPlaces.2.2.2.2.1 0 = some (.iload_n 2) := by decide +kernel
theorem cd_X7_hasPlaces_1 : ylk m_X7_hasPlaces.2.2.2.2.1 1 = some (.ifCond .lt 21) := by decide +kernel
theorem cd_X7_hasPlaces_4 : ylk m_X7_hasPlaces.2.2.2.2.1 4 = some (.iload_n 1) := by decide +kernel
theorem cd_X7_hasPlaces_5 : ylk m_X7_hasPlaces.2.2.2.2.1 5 = some (.ifCond .lt 17) := by decide +kernel
theorem cd_X7_hasPlaces_8 : ylk m_X7_hasPlaces.2.2.2.2.1 8 = some (.iload_n 1) := by decide +kernel
theorem cd_X7_hasPlaces_9 : ylk m_X7_hasPlaces.2.2.2.2.1 9 = some (.aload_n 0) := by decide +kernel
theorem cd_X7_hasPlaces_10 : ylk m_X7_hasPlaces.2.2.2.2.1 10 = some (.getfield 28) := by decide +kernel
theorem cd_X7_hasPlaces_13 : ylk m_X7_hasPlaces.2.2.2.2.1 13 = some (.iload_n 2) := by decide +kernel
theorem cd_X7_hasPlaces_14 : ylk m_X7_hasPlaces.2.2.2.2.1 14 = some (.isub) := by decide +kernel
theorem cd_X7_hasPlaces_15 : ylk m_X7_hasPlaces.2.2.2.2.1 15 = some (.if_icmp .gt 7) := by decide +kernel
theorem cd_X7_hasPlaces_18 : ylk m_X7_hasPlaces.2.2.2.2.1 18 = some (.iconst 1) := by decide +kernel
theorem cd_X7_hasPlaces_19 : ylk m_X7_hasPlaces.2.2.2.2.1 19 = some (.goto 4) := by decide +kernel
theorem cd_X7_hasPlaces_22 : ylk m_X7_hasPlaces.2.2.2.2.1 22 = some (.iconst 0) := by decide +kernel
theorem cd_X7_hasPlaces_23 : ylk m_X7_hasPlaces.2.2.2.2.1 23 = some (.ireturn) := by decide +kernel
noncomputable abbrev yb_X7_hasPlaces (C : yC) : ySt → Option (Option Value × yM) := yrn m_X7_hasPlaces C
theorem en_X7_hasPlaces (n : Nat) (A : yM) (v0 : Nat) (v1 : Int32) (v2 : Int32) : ycall (n + 1) 56 [.ref v0, .int v1, .int v2] A = if v2 < 0 then (if (0 : Int32) = 0 ∨ (0 : Int32) = 1 then some (some (.int (0 : Int32)), A) else none) else (if v1 < 0 then (if (0 : Int32) = 0 ∨ (0 : Int32) = 1 then some (some (.int (0 : Int32)), A) else none) else (ygI A v0 7 4 (fun x1 => if (x1 - v2) < v1 then (if (0 : Int32) = 0 ∨ (0 : Int32) = 1 then some (some (.int (0 : Int32)), A) else none) else (if (1 : Int32) = 0 ∨ (1 : Int32) = 1 then some (some (.int (1 : Int32)), A) else none)))) := (ybig_blk 14 _).trans (z_iload_n cd_X7_hasPlaces_0 (j := 2) rfl rfl (p := 1) rfl (zgo rfl (z_if_lt cd_X7_hasPlaces_1 (p := 22) rfl (p2 := 4) rfl (zgo rfl (z_iconst cd_X7_hasPlaces_22 ki_0 (p := 23) rfl (zgo rfl (z_zret cd_X7_hasPlaces_23 rfl)))) (zgo rfl (z_iload_n cd_X7_hasPlaces_4 (j := 1) rfl rfl (p := 5) rfl (zgo rfl (z_if_lt cd_X7_hasPlaces_5 (p := 22) rfl (p2 := 8) rfl (zgo rfl (z_iconst cd_X7_hasPlaces_22 ki_0 (p := 23) rfl (zgo rfl (z_zret cd_X7_hasPlaces_23 rfl)))) (zgo rfl (z_iload_n cd_X7_hasPlaces_8 (j := 1) rfl rfl (p := 9) rfl (zgo rfl (z_aload_n cd_X7_hasPlaces_9 (j := 0) rfl rfl (p := 10) rfl (zgo rfl (z_getI cd_X7_hasPlaces_10 fd_X7_28 (p := 13) rfl (fun x1 => (zgo rfl (z_iload_n cd_X7_hasPlaces_13 (j := 2) rfl rfl (p := 14) rfl (zgo rfl (z_isub cd_X7_hasPlaces_14 (p := 15) rfl (zgo rfl (z_ic_gt cd_X7_hasPlaces_15 (p := 22) rfl (p2 := 18) rfl (zgo rfl (z_iconst cd_X7_hasPlaces_22 ki_0 (p := 23) rfl (zgo rfl (z_zret cd_X7_hasPlaces_23 rfl)))) (zgo rfl (z_iconst cd_X7_hasPlaces_18 ki_1 (p := 19) rfl (zgo rfl (z_goto cd_X7_hasPlaces_19 (p := 23) rfl (zgo rfl (z_zret cd_X7_hasPlaces_23 rfl))))))))))))))))))))))))))
theorem cd_X7_setCell_0 : ylk m_X7_setCell.2.2.2.2.1 0 = some (.aload_n 0) := by decide +kernel
theorem cd_X7_setCell_1 : ylk m_X7_setCell.2.2.2.2.1 1 = some (.getfield 15) := by decide +kernel
theorem cd_X7_setCell_4 : ylk m_X7_setCell.2.2.2.2.1 4 = some (.iload_n 1) := by decide +kernel
theorem cd_X7_setCell_5 : ylk m_X7_setCell.2.2.2.2.1 5 = some (.aload_n 0) := by decide +kernel
theorem cd_X7_setCell_6 : ylk m_X7_setCell.2.2.2.2.1 6 = some (.getfield 25) := by decide +kernel
theorem cd_X7_setCell_9 : ylk m_X7_setCell.2.2.2.2.1 9 = some (.ifCond .ne 8) := by decide +kernel
theorem cd_X7_setCell_12 : ylk m_X7_setCell.2.2.2.2.1 12 = some (.iload_n 2) := by decide +kernel
theorem cd_X7_setCell_13 : ylk m_X7_setCell.2.2.2.2.1 13 = some (.i2b) := by decide +kernel
theorem cd_X7_setCell_14 : ylk m_X7_setCell.2.2.2.2.1 14 = some (.goto 17) := by decide +kernel
theorem cd_X7_setCell_17 : ylk m_X7_setCell.2.2.2.2.1 17 = some (.aload_n 0) := by decide +kernel
theorem cd_X7_setCell_18 : ylk m_X7_setCell.2.2.2.2.1 18 = some (.getfield 25) := by decide +kernel
theorem cd_X7_setCell_21 : ylk m_X7_setCell.2.2.2.2.1 21 = some (.iconst 1) := by decide +kernel
theorem cd_X7_setCell_22 : ylk m_X7_setCell.2.2.2.2.1 22 = some (.if_icmp .ne 8) := by decide +kernel
theorem cd_X7_setCell_25 : ylk m_X7_setCell.2.2.2.2.1 25 = some (.iload_n 2) := by decide +kernel
theorem cd_X7_setCell_26 : ylk m_X7_setCell.2.2.2.2.1 26 = some (.i2s) := by decide +kernel
theorem cd_X7_setCell_27 : ylk m_X7_setCell.2.2.2.2.1 27 = some (.goto 4) := by decide +kernel
theorem cd_X7_setCell_30 : ylk m_X7_setCell.2.2.2.2.1 30 = some (.iload_n 2) := by decide +kernel
theorem cd_X7_setCell_31 : ylk m_X7_setCell.2.2.2.2.1 31 = some (.iastore) := by decide +kernel
theorem cd_X7_setCell_32 : ylk m_X7_setCell.2.2.2.2.1 32 = some (.return_) := by decide +kernel
noncomputable abbrev yb_X7_setCell (C : yC) : ySt → Option (Option Value × yM) := yrn m_X7_setCell C
theorem en_X7_setCell (n : Nat) (A : yM) (v0 : Nat) (v1 : Int32) (v2 : Int32) : ycall (n + 1) 57 [.ref v0, .int v1, .int v2] A = ygR A v0 7 5 (fun a1 => ygI A v0 7 3 (fun x2 => if x2 = 0 then (ywr A a1 v1 v2.toInt8.toInt32 (fun A6 => some (none, A6))) else (ygI A v0 7 3 (fun x3 => if x3 = (1 : Int32) then (ywr A a1 v1 v2.toInt16.toInt32 (fun A5 => some (none, A5))) else (ywr A a1 v1 v2 (fun A4 => some (none, A4))))))) := (ybig_blk 16 _).trans (z_aload_n cd_X7_setCell_0 (j := 0) rfl rfl (p := 1) rfl (zgo rfl (z_getR cd_X7_setCell_1 fd_X7_15 (p := 4) rfl (fun a1 => (zgo rfl (z_iload_n cd_X7_setCell_4 (j := 1) rfl rfl (p := 5) rfl (zgo rfl (z_aload_n cd_X7_setCell_5 (j := 0) rfl rfl (p := 6) rfl (zgo rfl (z_getI cd_X7_setCell_6 fd_X7_25 (p := 9) rfl (fun x2 => (zgo rfl (z_if_ne cd_X7_setCell_9 (p := 17) rfl (p2 := 12) rfl (zgo rfl (z_iload_n cd_X7_setCell_12 (j := 2) rfl rfl (p := 13) rfl (zgo rfl (z_i2b cd_X7_setCell_13 (p := 14) rfl (zgo rfl (z_goto cd_X7_setCell_14 (p := 31) rfl (zgo rfl (z_iastore cd_X7_setCell_31 (p := 32) rfl (fun A6 => (zgo rfl (z_ret cd_X7_setCell_32 rfl))))))))))) (zgo rfl (z_aload_n cd_X7_setCell_17 (j := 0) rfl rfl (p := 18) rfl (zgo rfl (z_getI cd_X7_setCell_18 fd_X7_25 (p := 21) rfl (fun x3 => (zgo rfl (z_iconst cd_X7_setCell_21 ki_1 (p := 22) rfl (zgo rfl (z_ic_ne cd_X7_setCell_22 (p := 30) rfl (p2 := 25) rfl (zgo rfl (z_iload_n cd_X7_setCell_25 (j := 2) rfl rfl (p := 26) rfl (zgo rfl (z_i2s cd_X7_setCell_26 (p := 27) rfl (zgo rfl (z_goto cd_X7_setCell_27 (p := 31) rfl (zgo rfl (z_iastore cd_X7_setCell_31 (p := 32) rfl (fun A5 => (zgo rfl (z_ret cd_X7_setCell_32 rfl))))))))))) (zgo rfl (z_iload_n cd_X7_setCell_30 (j := 2) rfl rfl (p := 31) rfl (zgo rfl (z_iastore cd_X7_setCell_31 (p := 32) rfl (fun A4 => (zgo rfl (z_ret cd_X7_setCell_32 rfl)))))))))))))))))))))))))))))
theorem cd_X7_isSkipped_0 : ylk m_X7_isSkipped.2.2.2.2.1 0 = some (.aload_n 0) := by decide +kernel
theorem cd_X7_isSkipped_1 : ylk m_X7_isSkipped.2.2.2.2.1 1 = some (.getfield 15) := by decide +kernel
theorem cd_X7_isSkipped_4 : ylk m_X7_isSkipped.2.2.2.2.1 4 = some (.iload_n 1) := by decide +kernel
theorem cd_X7_isSkipped_5 : ylk m_X7_isSkipped.2.2.2.2.1 5 = some (.iaload) := by decide +kernel
theorem cd_X7_isSkipped_6 : ylk m_X7_isSkipped.2.2.2.2.1 6 = some (.aload_n 0) := by decide +kernel
theorem cd_X7_isSkipped_7 : ylk m_X7_isSkipped.2.2.2.2.1 7 = some (.getfield 25) := by decide +kernel
theorem cd_X7_isSkipped_10 : ylk m_X7_isSkipped.2.2.2.2.1 10 = some (.ifCond .ne 8) := by decide +kernel
theorem cd_X7_isSkipped_13 : ylk m_X7_isSkipped.2.2.2.2.1 13 = some (.bipush (-128)) := by decide +kernel
theorem cd_X7_isSkipped_15 : ylk m_X7_isSkipped.2.2.2.2.1 15 = some (.goto 19) := by decide +kernel
theorem cd_X7_isSkipped_18 : ylk m_X7_isSkipped.2.2.2.2.1 18 = some (.aload_n 0) := by decide +kernel
theorem cd_X7_isSkipped_19 : ylk m_X7_isSkipped.2.2.2.2.1 19 = some (.getfield 25) := by decide +kernel
theorem cd_X7_isSkipped_22 : ylk m_X7_isSkipped.2.2.2.2.1 22 = some (.iconst 1) := by decide +kernel
theorem cd_X7_isSkipped_23 : ylk m_X7_isSkipped.2.2.2.2.1 23 = some (.if_icmp .ne 9) := by decide +kernel
theorem cd_X7_isSkipped_26 : ylk m_X7_isSkipped.2.2.2.2.1 26 = some (.sipush (-32768)) := by decide +kernel
theorem cd_X7_isSkipped_29 : ylk m_X7_isSkipped.2.2.2.2.1 29 = some (.goto 5) := by decide +kernel
theorem cd_X7_isSkipped_32 : ylk m_X7_isSkipped.2.2.2.2.1 32 = some (.ldc 31) := by decide +kernel
theorem cd_X7_isSkipped_34 : ylk m_X7_isSkipped.2.2.2.2.1 34 = some (.if_icmp .ne 7) := by decide +kernel
theorem cd_X7_isSkipped_37 : ylk m_X7_isSkipped.2.2.2.2.1 37 = some (.iconst 1) := by decide +kernel
theorem cd_X7_isSkipped_38 : ylk m_X7_isSkipped.2.2.2.2.1 38 = some (.goto 4) := by decide +kernel
theorem cd_X7_isSkipped_41 : ylk m_X7_isSkipped.2.2.2.2.1 41 = some (.iconst 0) := by decide +kernel
theorem cd_X7_isSkipped_42 : ylk m_X7_isSkipped.2.2.2.2.1 42 = some (.ireturn) := by decide +kernel
noncomputable abbrev yb_X7_isSkipped (C : yC) : ySt → Option (Option Value × yM) := yrn m_X7_isSkipped C
theorem en_X7_isSkipped (n : Nat) (A : yM) (v0 : Nat) (v1 : Int32) : ycall (n + 1) 58 [.ref v0, .int v1] A = ygR A v0 7 5 (fun a1 => yrd A a1 v1 (fun x2 => ygI A v0 7 3 (fun x3 => if x3 = 0 then (if x2 = (-128 : Int32) then (if (1 : Int32) = 0 ∨ (1 : Int32) = 1 then some (some (.int (1 : Int32)), A) else none) else (if (0 : Int32) = 0 ∨ (0 : Int32) = 1 then some (some (.int (0 : Int32)), A) else none)) else (ygI A v0 7 3 (fun x4 => if x4 = (1 : Int32) then (if x2 = (-32768 : Int32) then (if (1 : Int32) = 0 ∨ (1 : Int32) = 1 then some (some (.int (1 : Int32)), A) else none) else (if (0 : Int32) = 0 ∨ (0 : Int32) = 1 then some (some (.int (0 : Int32)), A) else none)) else (if x2 = (-2147483648 : Int32) then (if (1 : Int32) = 0 ∨ (1 : Int32) = 1 then some (some (.int (1 : Int32)), A) else none) else (if (0 : Int32) = 0 ∨ (0 : Int32) = 1 then some (some (.int (0 : Int32)), A) else none))))))) := (ybig_blk 18 _).trans (z_aload_n cd_X7_isSkipped_0 (j := 0) rfl rfl (p := 1) rfl (zgo rfl (z_getR cd_X7_isSkipped_1 fd_X7_15 (p := 4) rfl (fun a1 => (zgo rfl (z_iload_n cd_X7_isSkipped_4 (j := 1) rfl rfl (p := 5) rfl (zgo rfl (z_iaload cd_X7_isSkipped_5 (p := 6) rfl (fun x2 => (zgo rfl (z_aload_n cd_X7_isSkipped_6 (j := 0) rfl rfl (p := 7) rfl (zgo rfl (z_getI cd_X7_isSkipped_7 fd_X7_25 (p := 10) rfl (fun x3 => (zgo rfl (z_if_ne cd_X7_isSkipped_10 (p := 18) rfl (p2 := 13) rfl (zgo rfl (z_bipush cd_X7_isSkipped_13 kb_m128 (p := 15) rfl (zgo rfl (z_goto cd_X7_isSkipped_15 (p := 34) rfl (zgo rfl (z_ic_ne cd_X7_isSkipped_34 (p := 41) rfl (p2 := 37) rfl (zgo rfl (z_iconst cd_X7_isSkipped_37 ki_1 (p := 38) rfl (zgo rfl (z_goto cd_X7_isSkipped_38 (p := 42) rfl (zgo rfl (z_zret cd_X7_isSkipped_42 rfl)))))) (zgo rfl (z_iconst cd_X7_isSkipped_41 ki_0 (p := 42) rfl (zgo rfl (z_zret cd_X7_isSkipped_42 rfl)))))))))) (zgo rfl (z_aload_n cd_X7_isSkipped_18 (j := 0) rfl rfl (p := 19) rfl (zgo rfl (z_getI cd_X7_isSkipped_19 fd_X7_25 (p := 22) rfl (fun x4 => (zgo rfl (z_iconst cd_X7_isSkipped_22 ki_1 (p := 23) rfl (zgo rfl (z_ic_ne cd_X7_isSkipped_23 (p := 32) rfl (p2 := 26) rfl (zgo rfl (z_sipush cd_X7_isSkipped_26 ks_m32768 (p := 29) rfl (zgo rfl (z_goto cd_X7_isSkipped_29 (p := 34) rfl (zgo rfl (z_ic_ne cd_X7_isSkipped_34 (p := 41) rfl (p2 := 37) rfl (zgo rfl (z_iconst cd_X7_isSkipped_37 ki_1 (p := 38) rfl (zgo rfl (z_goto cd_X7_isSkipped_38 (p := 42) rfl (zgo rfl (z_zret cd_X7_isSkipped_42 rfl)))))) (zgo rfl (z_iconst cd_X7_isSkipped_41 ki_0 (p := 42) rfl (zgo rfl (z_zret cd_X7_isSkipped_42 rfl)))))))))) (zgo rfl (z_ldc cd_X7_isSkipped_32 ct_X7_31 (p := 34) rfl (zgo rfl (z_ic_ne cd_X7_isSkipped_34 (p := 41) rfl (p2 := 37) rfl (zgo rfl (z_iconst cd_X7_isSkipped_37 ki_1 (p := 38) rfl (zgo rfl (z_goto cd_X7_isSkipped_38 (p := 42) rfl (zgo rfl (z_zret cd_X7_isSkipped_42 rfl)))))) (zgo rfl (z_iconst cd_X7_isSkipped_41 ki_0 (p := 42) rfl (zgo rfl (z_zret cd_X7_isSkipped_42 rfl)))))))))))))))))))))))))))))))))
theorem cd_X7_firstPlaceOf_0 : ylk m_X7_firstPlaceOf.2.2.2.2.1 0 = some (.iconst 0) := by decide +kernel
theorem cd_X7_firstPlaceOf_1 : ylk m_X7_firstPlaceOf.2.2.2.2.1 1 = some (.istore_n 2) := by decide +kernel
theorem cd_X7_firstPlaceOf_2 : ylk m_X7_firstPlaceOf.2.2.2.2.1 2 = some (.iload_n 2) := by decide +kernel
theorem cd_X7_firstPlaceOf_3 : ylk m_X7_firstPlaceOf.2.2.2.2.1 3 = some (.aload_n 0) := by decide +kernel
theorem cd_X7_firstPlaceOf_4 : ylk m_X7_firstPlaceOf.2.2.2.2.1 4 = some (.getfield 28) := by decide +kernel
theorem cd_X7_firstPlaceOf_7 : ylk m_X7_firstPlaceOf.2.2.2.2.1 7 = some (.if_icmp .ge 21) := by decide +kernel
theorem cd_X7_firstPlaceOf_10 : ylk m_X7_firstPlaceOf.2.2.2.2.1 10 = some (.aload_n 0) := by decide +kernel
theorem cd_X7_firstPlaceOf_11 : ylk m_X7_firstPlaceOf.2.2.2.2.1 11 = some (.getfield 15) := by decide +kernel
theorem cd_X7_firstPlaceOf_14 : ylk m_X7_firstPlaceOf.2.2.2.2.1 14 = some (.iload_n 2) := by decide +kernel
theorem cd_X7_firstPlaceOf_15 : ylk m_X7_firstPlaceOf.2.2.2.2.1 15 = some (.iaload) := by decide +kernel
theorem cd_X7_firstPlaceOf_16 : ylk m_X7_firstPlaceOf.2.2.2.2.1 16 = some (.iload_n 1) := by decide +kernel
theorem cd_X7_firstPlaceOf_17 : ylk m_X7_firstPlaceOf.2.2.2.2.1 17 = some (.if_icmp .ne 5) := by decide +kernel
theorem cd_X7_firstPlaceOf_20 : ylk m_X7_firstPlaceOf.2.2.2.2.1 20 = some (.iload_n 2) := by decide +kernel
theorem cd_X7_firstPlaceOf_21 : ylk m_X7_firstPlaceOf.2.2.2.2.1 21 = some (.ireturn) := by decide +kernel
theorem cd_X7_firstPlaceOf_22 : ylk m_X7_firstPlaceOf.2.2.2.2.1 22 = some (.iinc 2 1) := by decide +kernel
theorem cd_X7_firstPlaceOf_25 : ylk m_X7_firstPlaceOf.2.2.2.2.1 25 = some (.goto (-23)) := by decide +kernel
theorem cd_X7_firstPlaceOf_28 : ylk m_X7_firstPlaceOf.2.2.2.2.1 28 = some (.bipush (-4)) := by decide +kernel
theorem cd_X7_firstPlaceOf_30 : ylk m_X7_firstPlaceOf.2.2.2.2.1 30 = some (.ireturn) := by decide +kernel
noncomputable abbrev yb_X7_firstPlaceOf (C : yC) : ySt → Option (Option Value × yM) := yrn m_X7_firstPlaceOf C
theorem en_X7_firstPlaceOf (n : Nat) (A : yM) (v0 : Nat) (v1 : Int32) : ycall (n + 1) 59 [.ref v0, .int v1] A = yb_X7_firstPlaceOf (ycall n) (2, [some (.ref v0), some (.int v1), some (.int (0 : Int32))], [], A) := (ybig_blk 3 _).trans (z_iconst cd_X7_firstPlaceOf_0 ki_0 (p := 1) rfl (zgo rfl (z_istore_n cd_X7_firstPlaceOf_1 (j := 2) (L1 := [some (.ref v0), some (.int v1), some (.int (0 : Int32))]) rfl rfl (p := 2) rfl (zcut (p := 2) (L1 := [some (.ref v0), some (.int v1), some (.int (0 : Int32))]) rfl rfl))))
theorem bk_X7_firstPlaceOf_2 (C : yC) (A : yM) (v0 : Nat) (v1 : Int32) (v2 : Int32) : yb_X7_firstPlaceOf C (2, [some (.ref v0), some (.int v1), some (.int v2)], [], A) = ygI A v0 7 4 (fun x1 => if x1 ≤ v2 then (some (some (.int (-4 : Int32)), A)) else (ygR A v0 7 5 (fun a2 => yrd A a2 v2 (fun x3 => if x3 = v1 then (some (some (.int v2), A)) else (yb_X7_firstPlaceOf C (2, [some (.ref v0), some (.int v1), some (.int (v2 + (1 : Int32)))], [], A)))))) := (ybig_blk 13 _).trans (z_iload_n cd_X7_firstPlaceOf_2 (j := 2) rfl rfl (p := 3) rfl (zgo rfl (z_aload_n cd_X7_firstPlaceOf_3 (j := 0) rfl rfl (p := 4) rfl (zgo rfl (z_getI cd_X7_firstPlaceOf_4 fd_X7_28 (p := 7) rfl (fun x1 => (zgo rfl (z_ic_ge cd_X7_firstPlaceOf_7 (p := 28) rfl (p2 := 10) rfl (zgo rfl (z_bipush cd_X7_firstPlaceOf_28 kb_m4 (p := 30) rfl (zgo rfl (z_iret cd_X7_firstPlaceOf_30 rfl)))) (zgo rfl (z_aload_n cd_X7_firstPlaceOf_10 (j := 0) rfl rfl (p := 11) rfl (zgo rfl (z_getR cd_X7_firstPlaceOf_11 fd_X7_15 (p := 14) rfl (fun a2 => (zgo rfl (z_iload_n cd_X7_firstPlaceOf_14 (j := 2) rfl rfl (p := 15) rfl (zgo rfl (z_iaload cd_X7_firstPlaceOf_15 (p := 16) rfl (fun x3 => (zgo rfl (z_iload_n cd_X7_firstPlaceOf_16 (j := 1) rfl rfl (p := 17) rfl (zgo rfl (z_ic_ne cd_X7_firstPlaceOf_17 (p := 22) rfl (p2 := 20) rfl (zgo rfl (z_iload_n cd_X7_firstPlaceOf_20 (j := 2) rfl rfl (p := 21) rfl (zgo rfl (z_iret cd_X7_firstPlaceOf_21 rfl)))) (zgo rfl (z_iinc cd_X7_firstPlaceOf_22 ki_1 (L1 := [some (.ref v0), some (.int v1), some (.int (v2 + (1 : Int32)))]) rfl rfl (p := 25) rfl (zgo rfl (z_goto cd_X7_firstPlaceOf_25 (p := 2) rfl (zcut (p := 2) (L1 := [some (.ref v0), some (.int v1), some (.int (v2 + (1 : Int32)))]) rfl rfl)))))))))))))))))))))))))))
theorem cd_X8_ripens_0 : ylk m_X8_ripens.2.2.2.2.1 0 = some (.iconst 1) := by decide +kernel
theorem cd_X8_ripens_1 : ylk m_X8_ripens.2.2.2.2.1 1 = some (.ireturn) := by decide +kernel
noncomputable abbrev yb_X8_ripens (C : yC) : ySt → Option (Option Value × yM) := yrn m_X8_ripens C
theorem en_X8_ripens (n : Nat) (A : yM) (v0 : Nat) (v1 : Int32) (v2 : Int32) : ycall (n + 1) 60 [.ref v0, .int v1, .int v2] A = some (some (.int (1 : Int32)), A) := (ybig_blk 3 _).trans (z_iconst cd_X8_ripens_0 ki_1 (p := 1) rfl (zgo rfl (z_iret cd_X8_ripens_1 rfl)))
theorem cd_X8_marked_0 : ylk m_X8_marked.2.2.2.2.1 0 = some (.iload_n 1) := by decide +kernel
theorem cd_X8_marked_1 : ylk m_X8_marked.2.2.2.2.1 1 = some (.ireturn) := by decide +kernel
noncomputable abbrev yb_X8_marked (C : yC) : ySt → Option (Option Value × yM) := yrn m_X8_marked C
theorem en_X8_marked (n : Nat) (A : yM) (v0 : Nat) (v1 : Int32) (v2 : Int32) (v3 : Int32) (v4 : Int32) : ycall (n + 1) 61 [.ref v0, .int v1, .int v2, .int v3, .int v4] A = some (some (.int v1), A) := (ybig_blk 3 _).trans (z_iload_n cd_X8_marked_0 (j := 1) rfl rfl (p := 1) rfl (zgo rfl (z_iret cd_X8_marked_1 rfl)))
theorem cd_X8_price_0 : ylk m_X8_price.2.2.2.2.1 0 = some (.iconst 1) := by decide +kernel
theorem cd_X8_price_1 : ylk m_X8_price.2.2.2.2.1 1 = some (.ireturn) := by decide +kernel
noncomputable abbrev yb_X8_price (C : yC) : ySt → Option (Option Value × yM) := yrn m_X8_price C
theorem en_X8_price (n : Nat) (A : yM) (v0 : Nat) (v1 : Int32) : ycall (n + 1) 62 [.ref v0, .int v1] A = some (some (.int (1 : Int32)), A) := (ybig_blk 3 _).trans (z_iconst cd_X8_price_0 ki_1 (p := 1) rfl (zgo rfl (z_iret cd_X8_price_1 rfl)))
theorem cd_X9_digitsBehind_0 : ylk m_X9_digitsBehind.2.2.2.2.1 0 = some (.iload_n 0) := by decide +kernel
theorem cd_X9_digitsBehind_1 : ylk m_X9_digitsBehind.2.2.2.2.1 1 = some (.lookupswitch 62 #[(99, 56), (100, 58), (101, 53), (115, 51), (119, 60)]) := by decide +kernel
theorem cd_X9_digitsBehind_52 : ylk m_X9_digitsBehind.2.2.2.2.1 52 = some (.iconst 2) := by decide +kernel
theorem cd_X9_digitsBehind_53 : ylk m_X9_digitsBehind.2.2.2.2.1 53 = some (.ireturn) := by decide +kernel
theorem cd_X9_digitsBehind_54 : ylk m_X9_digitsBehind.2.2.2.2.1 54 = some (.bipush 6) := by decide +kernel
theorem cd_X9_digitsBehind_56 : ylk m_X9_digitsBehind.2.2.2.2.1 56 = some (.ireturn) := by decide +kernel
theorem cd_X9_digitsBehind_57 : ylk m_X9_digitsBehind.2.2.2.2.1 57 = some (.iconst 3) := by decide +kernel
theorem cd_X9_digitsBehind_58 : ylk m_X9_digitsBehind.2.2.2.2.1 58 = some (.ireturn) := by decide +kernel
theorem cd_X9_digitsBehind_59 : ylk m_X9_digitsBehind.2.2.2.2.1 59 = some (.iconst 1) := by decide +kernel
theorem cd_X9_digitsBehind_60 : ylk m_X9_digitsBehind.2.2.2.2.1 60 = some (.ireturn) := by decide +kernel
theorem cd_X9_digitsBehind_61 : ylk m_X9_digitsBehind.2.2.2.2.1 61 = some (.iconst 2) := by decide +kernel
theorem cd_X9_digitsBehind_62 : ylk m_X9_digitsBehind.2.2.2.2.1 62 = some (.ireturn) := by decide +kernel
theorem cd_X9_digitsBehind_63 : ylk m_X9_digitsBehind.2.2.2.2.1 63 = some (.iconst (-1)) := by decide +kernel
theorem cd_X9_digitsBehind_64 : ylk m_X9_digitsBehind.2.2.2.2.1 64 = some (.ireturn) := by decide +kernel
noncomputable abbrev yb_X9_digitsBehind (C : yC) : ySt → Option (Option Value × yM) := yrn m_X9_digitsBehind C
theorem en_X9_digitsBehind (n : Nat) (A : yM) (v0 : Int32) : ycall (n + 1) 63 [.int v0] A = (if v0 = (99 : Int32) then (some (some (.int (3 : Int32)), A)) else (if v0 = (100 : Int32) then (some (some (.int (1 : Int32)), A)) else (if v0 = (101 : Int32) then (some (some (.int (6 : Int32)), A)) else (if v0 = (115 : Int32) then (some (some (.int (2 : Int32)), A)) else (if v0 = (119 : Int32) then (some (some (.int (2 : Int32)), A)) else (some (some (.int (-1 : Int32)), A))))))) := (ybig_blk 5 _).trans (z_iload_n cd_X9_digitsBehind_0 (j := 0) rfl rfl (p := 1) rfl (zgo rfl (z_lsw cd_X9_digitsBehind_1 (p := 63) rfl (ps := [(99, 57), (100, 59), (101, 54), (115, 52), (119, 61)]) rfl (z_swc ki_99 (zgo rfl (z_iconst cd_X9_digitsBehind_57 ki_3 (p := 58) rfl (zgo rfl (z_iret cd_X9_digitsBehind_58 rfl)))) (z_swc ki_100 (zgo rfl (z_iconst cd_X9_digitsBehind_59 ki_1 (p := 60) rfl (zgo rfl (z_iret cd_X9_digitsBehind_60 rfl)))) (z_swc ki_101 (zgo rfl (z_bipush cd_X9_digitsBehind_54 kb_6 (p := 56) rfl (zgo rfl (z_iret cd_X9_digitsBehind_56 rfl)))) (z_swc ki_115 (zgo rfl (z_iconst cd_X9_digitsBehind_52 ki_2 (p := 53) rfl (zgo rfl (z_iret cd_X9_digitsBehind_53 rfl)))) (z_swc ki_119 (zgo rfl (z_iconst cd_X9_digitsBehind_61 ki_2 (p := 62) rfl (zgo rfl (z_iret cd_X9_digitsBehind_62 rfl)))) (z_swn (zgo rfl (z_iconst cd_X9_digitsBehind_63 ki_m1 (p := 64) rfl (zgo rfl (z_iret cd_X9_digitsBehind_64 rfl)))))))))))))
theorem cd_X9_faultOfForm_0 : ylk m_X9_faultOfForm.2.2.2.2.1 0 = some (.aload_n 0) := by decide +kernel
theorem cd_X9_faultOfForm_1 : ylk m_X9_faultOfForm.2.2.2.2.1 1 = some (.getfield 9) := by decide +kernel
theorem cd_X9_faultOfForm_4 : ylk m_X9_faultOfForm.2.2.2.2.1 4 = some (.ifCond .ne 5) := by decide +kernel
theorem cd_X9_faultOfForm_7 : ylk m_X9_faultOfForm.2.2.2.2.1 7 = some (.iconst 0) := by decide +kernel
theorem cd_X9_faultOfForm_8 : ylk m_X9_faultOfForm.2.2.2.2.1 8 = some (.ireturn) := by decide +kernel
theorem cd_X9_faultOfForm_9 : ylk m_X9_faultOfForm.2.2.2.2.1 9 = some (.iconst 0) := by decide +kernel
theorem cd_X9_faultOfForm_10 : ylk m_X9_faultOfForm.2.2.2.2.1 10 = some (.istore_n 1) := by decide +kernel
theorem cd_X9_faultOfForm_11 : ylk m_X9_faultOfForm.2.2.2.2.1 11 = some (.iload_n 1) := by decide +kernel
theorem cd_X9_faultOfForm_12 : ylk m_X9_faultOfForm.2.2.2.2.1 12 = some (.aload_n 0) := by decide +kernel
theorem cd_X9_faultOfForm_13 : ylk m_X9_faultOfForm.2.2.2.2.1 13 = some (.getfield 9) := by decide +kernel
theorem cd_X9_faultOfForm_16 : ylk m_X9_faultOfForm.2.2.2.2.1 16 = some (.if_icmp .ge 101) := by decide +kernel
theorem cd_X9_faultOfForm_19 : ylk m_X9_faultOfForm.2.2.2.2.1 19 = some (.aload_n 0) := by decide +kernel
theorem cd_X9_faultOfForm_20 : ylk m_X9_faultOfForm.2.2.2.2.1 20 = some (.getfield 15) := by decide +kernel
theorem cd_X9_faultOfForm_23 : ylk m_X9_faultOfForm.2.2.2.2.1 23 = some (.iload_n 1) := by decide +kernel
theorem cd_X9_faultOfForm_24 : ylk m_X9_faultOfForm.2.2.2.2.1 24 = some (.iaload) := by decide +kernel
theorem cd_X9_faultOfForm_25 : ylk m_X9_faultOfForm.2.2.2.2.1 25 = some (.invokestatic 19) := by decide +kernel
theorem cd_X9_faultOfForm_28 : ylk m_X9_faultOfForm.2.2.2.2.1 28 = some (.istore_n 2) := by decide +kernel
theorem cd_X9_faultOfForm_29 : ylk m_X9_faultOfForm.2.2.2.2.1 29 = some (.iload_n 2) := by decide +kernel
theorem cd_X9_faultOfForm_30 : ylk m_X9_faultOfForm.2.2.2.2.1 30 = some (.ifCond .ge 5) := by decide +kernel
theorem cd_X9_faultOfForm_33 : ylk m_X9_faultOfForm.2.2.2.2.1 33 = some (.iload_n 1) := by decide +kernel
theorem cd_X9_faultOfForm_34 : ylk m_X9_faultOfForm.2.2.2.2.1 34 = some (.ireturn) := by decide +kernel
theorem cd_X9_faultOfForm_35 : ylk m_X9_faultOfForm.2.2.2.2.1 35 = some (.iconst 1) := by decide +kernel
theorem cd_X9_faultOfForm_36 : ylk m_X9_faultOfForm.2.2.2.2.1 36 = some (.istore_n 3) := by decide +kernel
theorem cd_X9_faultOfForm_37 : ylk m_X9_faultOfForm.2.2.2.2.1 37 = some (.iload_n 3) := by decide +kernel
theorem cd_X9_faultOfForm_38 : ylk m_X9_faultOfForm.2.2.2.2.1 38 = some (.iload_n 2) := by decide +kernel
theorem cd_X9_faultOfForm_39 : ylk m_X9_faultOfForm.2.2.2.2.1 39 = some (.iconst 1) := by decide +kernel
theorem cd_X9_faultOfForm_40 : ylk m_X9_faultOfForm.2.2.2.2.1 40 = some (.iadd) := by decide +kernel
theorem cd_X9_faultOfForm_41 : ylk m_X9_faultOfForm.2.2.2.2.1 41 = some (.if_icmp .gt 67) := by decide +kernel
theorem cd_X9_faultOfForm_44 : ylk m_X9_faultOfForm.2.2.2.2.1 44 = some (.aload_n 0) := by decide +kernel
theorem cd_X9_faultOfForm_45 : ylk m_X9_faultOfForm.2.2.2.2.1 45 = some (.iload_n 1) := by decide +kernel
theorem cd_X9_faultOfForm_46 : ylk m_X9_faultOfForm.2.2.2.2.1 46 = some (.iload_n 3) := by decide +kernel
theorem cd_X9_faultOfForm_47 : ylk m_X9_faultOfForm.2.2.2.2.1 47 = some (.iadd) := by decide +kernel
theorem cd_X9_faultOfForm_48 : ylk m_X9_faultOfForm.2.2.2.2.1 48 = some (.invokevirtual 25) := by decide +kernel
theorem cd_X9_faultOfForm_51 : ylk m_X9_faultOfForm.2.2.2.2.1 51 = some (.ifCond .ne 8) := by decide +kernel
theorem cd_X9_faultOfForm_54 : ylk m_X9_faultOfForm.2.2.2.2.1 54 = some (.aload_n 0) := by decide +kernel
theorem cd_X9_faultOfForm_55 : ylk m_X9_faultOfForm.2.2.2.2.1 55 = some (.getfield 9) := by decide +kernel
theorem cd_X9_faultOfForm_58 : ylk m_X9_faultOfForm.2.2.2.2.1 58 = some (.ireturn) := by decide +kernel
theorem cd_X9_faultOfForm_59 : ylk m_X9_faultOfForm.2.2.2.2.1 59 = some (.aload_n 0) := by decide +kernel
theorem cd_X9_faultOfForm_60 : ylk m_X9_faultOfForm.2.2.2.2.1 60 = some (.getfield 15) := by decide +kernel
theorem cd_X9_faultOfForm_63 : ylk m_X9_faultOfForm.2.2.2.2.1 63 = some (.iload_n 1) := by decide +kernel
theorem cd_X9_faultOfForm_64 : ylk m_X9_faultOfForm.2.2.2.2.1 64 = some (.iload_n 3) := by decide +kernel
theorem cd_X9_faultOfForm_65 : ylk m_X9_faultOfForm.2.2.2.2.1 65 = some (.iadd) := by decide +kernel
theorem cd_X9_faultOfForm_66 : ylk m_X9_faultOfForm.2.2.2.2.1 66 = some (.iaload) := by decide +kernel
theorem cd_X9_faultOfForm_67 : ylk m_X9_faultOfForm.2.2.2.2.1 67 = some (.istore 4) := by decide +kernel
theorem cd_X9_faultOfForm_69 : ylk m_X9_faultOfForm.2.2.2.2.1 69 = some (.iload_n 3) := by decide +kernel
theorem cd_X9_faultOfForm_70 : ylk m_X9_faultOfForm.2.2.2.2.1 70 = some (.iload_n 2) := by decide +kernel
theorem cd_X9_faultOfForm_71 : ylk m_X9_faultOfForm.2.2.2.2.1 71 = some (.if_icmp .gt 20) := by decide +kernel
theorem cd_X9_faultOfForm_74 : ylk m_X9_faultOfForm.2.2.2.2.1 74 = some (.iload 4) := by decide +kernel
theorem cd_X9_faultOfForm_76 : ylk m_X9_faultOfForm.2.2.2.2.1 76 = some (.bipush 48) := by decide +kernel
theorem cd_X9_faultOfForm_78 : ylk m_X9_faultOfForm.2.2.2.2.1 78 = some (.if_icmp .lt 20) := by decide +kernel
theorem cd_X9_faultOfForm_81 : ylk m_X9_faultOfForm.2.2.2.2.1 81 = some (.iload 4) := by decide +kernel
theorem cd_X9_faultOfForm_83 : ylk m_X9_faultOfForm.2.2.2.2.1 83 = some (.bipush 57) := by decide +kernel
theorem cd_X9_faultOfForm_85 : ylk m_X9_faultOfForm.2.2.2.2.1 85 = some (.if_icmp .le 17) := by decide +kernel
theorem cd_X9_faultOfForm_88 : ylk m_X9_faultOfForm.2.2.2.2.1 88 = some (.goto 10) := by decide +kernel
theorem cd_X9_faultOfForm_91 : ylk m_X9_faultOfForm.2.2.2.2.1 91 = some (.iload 4) := by decide +kernel
theorem cd_X9_faultOfForm_93 : ylk m_X9_faultOfForm.2.2.2.2.1 93 = some (.bipush 59) := by decide +kernel
theorem cd_X9_faultOfForm_95 : ylk m_X9_faultOfForm.2.2.2.2.1 95 = some (.if_icmp .eq 7) := by decide +kernel
theorem cd_X9_faultOfForm_98 : ylk m_X9_faultOfForm.2.2.2.2.1 98 = some (.iload_n 1) := by decide +kernel
theorem cd_X9_faultOfForm_99 : ylk m_X9_faultOfForm.2.2.2.2.1 99 = some (.iload_n 3) := by decide +kernel
theorem cd_X9_faultOfForm_100 : ylk m_X9_faultOfForm.2.2.2.2.1 100 = some (.iadd) := by decide +kernel
theorem cd_X9_faultOfForm_101 : ylk m_X9_faultOfForm.2.2.2.2.1 101 = some (.ireturn) := by decide +kernel
theorem cd_X9_faultOfForm_102 : ylk m_X9_faultOfForm.2.2.2.2.1 102 = some (.iinc 3 1) := by decide +kernel
theorem cd_X9_faultOfForm_105 : ylk m_X9_faultOfForm.2.2.2.2.1 105 = some (.goto (-68)) := by decide +kernel
theorem cd_X9_faultOfForm_108 : ylk m_X9_faultOfForm.2.2.2.2.1 108 = some (.iload_n 1) := by decide +kernel
theorem cd_X9_faultOfForm_109 : ylk m_X9_faultOfForm.2.2.2.2.1 109 = some (.iload_n 2) := by decide +kernel
theorem cd_X9_faultOfForm_110 : ylk m_X9_faultOfForm.2.2.2.2.1 110 = some (.iconst 2) := by decide +kernel
theorem cd_X9_faultOfForm_111 : ylk m_X9_faultOfForm.2.2.2.2.1 111 = some (.iadd) := by decide +kernel
theorem cd_X9_faultOfForm_112 : ylk m_X9_faultOfForm.2.2.2.2.1 112 = some (.iadd) := by decide +kernel
theorem cd_X9_faultOfForm_113 : ylk m_X9_faultOfForm.2.2.2.2.1 113 = some (.istore_n 1) := by decide +kernel
theorem cd_X9_faultOfForm_114 : ylk m_X9_faultOfForm.2.2.2.2.1 114 = some (.goto (-103)) := by decide +kernel
theorem cd_X9_faultOfForm_117 : ylk m_X9_faultOfForm.2.2.2.2.1 117 = some (.iconst (-1)) := by decide +kernel
theorem cd_X9_faultOfForm_118 : ylk m_X9_faultOfForm.2.2.2.2.1 118 = some (.ireturn) := by decide +kernel
noncomputable abbrev yb_X9_faultOfForm (C : yC) : ySt → Option (Option Value × yM) := yrn m_X9_faultOfForm C
theorem en_X9_faultOfForm (n : Nat) (A : yM) (v0 : Nat) : ycall (n + 1) 64 [.ref v0] A = ygI A v0 7 4 (fun x1 => if x1 = 0 then (some (some (.int (0 : Int32)), A)) else (yb_X9_faultOfForm (ycall n) (11, [some (.ref v0), some (.int (0 : Int32)), none, none, none], [], A))) := (ybig_blk 6 _).trans (z_aload_n cd_X9_faultOfForm_0 (j := 0) rfl rfl (p := 1) rfl (zgo rfl (z_getI cd_X9_faultOfForm_1 fd_X9_9 (p := 4) rfl (fun x1 => (zgo rfl (z_if_ne cd_X9_faultOfForm_4 (p := 9) rfl (p2 := 7) rfl (zgo rfl (z_iconst cd_X9_faultOfForm_7 ki_0 (p := 8) rfl (zgo rfl (z_iret cd_X9_faultOfForm_8 rfl)))) (zgo rfl (z_iconst cd_X9_faultOfForm_9 ki_0 (p := 10) rfl (zgo rfl (z_istore_n cd_X9_faultOfForm_10 (j := 1) (L1 := [some (.ref v0), some (.int (0 : Int32)), none, none, none]) rfl rfl (p := 11) rfl (zcut (p := 11) (L1 := [some (.ref v0), some (.int (0 : Int32)), none, none, none]) rfl rfl)))))))))))
theorem bk_X9_faultOfForm_11 (C : yC) (A : yM) (v0 : Nat) (v1 : Int32) : yb_X9_faultOfForm C (11, [some (.ref v0), some (.int v1), none, none, none], [], A) = ygI A v0 7 4 (fun x1 => if x1 ≤ v1 then (some (some (.int (-1 : Int32)), A)) else (ygR A v0 7 5 (fun a2 => yrd A a2 v1 (fun x3 => (yi (C 63 [.int x3] A)).bind (fun z4 => if 0 ≤ z4.1 then (yb_X9_faultOfForm C (37, [some (.ref v0), some (.int v1), some (.int z4.1), some (.int (1 : Int32)), none], [], z4.2)) else (some (some (.int v1), z4.2))))))) := (ybig_blk 15 _).trans (z_iload_n cd_X9_faultOfForm_11 (j := 1) rfl rfl (p := 12) rfl (zgo rfl (z_aload_n cd_X9_faultOfForm_12 (j := 0) rfl rfl (p := 13) rfl (zgo rfl (z_getI cd_X9_faultOfForm_13 fd_X9_9 (p := 16) rfl (fun x1 => (zgo rfl (z_ic_ge cd_X9_faultOfForm_16 (p := 117) rfl (p2 := 19) rfl (zgo rfl (z_iconst cd_X9_faultOfForm_117 ki_m1 (p := 118) rfl (zgo rfl (z_iret cd_X9_faultOfForm_118 rfl)))) (zgo rfl (z_aload_n cd_X9_faultOfForm_19 (j := 0) rfl rfl (p := 20) rfl (zgo rfl (z_getR cd_X9_faultOfForm_20 fd_X9_15 (p := 23) rfl (fun a2 => (zgo rfl (z_iload_n cd_X9_faultOfForm_23 (j := 1) rfl rfl (p := 24) rfl (zgo rfl (z_iaload cd_X9_faultOfForm_24 (p := 25) rfl (fun x3 => (zgo rfl (z_cs1 (vs := [.int x3]) (rest := []) cd_X9_faultOfForm_25 (zs (key := 58) (by decide)) cl_X9_c58 rfl rfl rfl rfl (p := 28) rfl (fun z4 => (zgo rfl (z_istore_n cd_X9_faultOfForm_28 (j := 2) (L1 := [some (.ref v0), some (.int v1), some (.int z4.1), none, none]) rfl rfl (p := 29) rfl (zgo rfl (z_iload_n cd_X9_faultOfForm_29 (j := 2) rfl rfl (p := 30) rfl (zgo rfl (z_if_ge cd_X9_faultOfForm_30 (p := 35) rfl (p2 := 33) rfl (zgo rfl (z_iconst cd_X9_faultOfForm_35 ki_1 (p := 36) rfl (zgo rfl (z_istore_n cd_X9_faultOfForm_36 (j := 3) (L1 := [some (.ref v0), some (.int v1), some (.int z4.1), some (.int (1 : Int32)), none]) rfl rfl (p := 37) rfl (zcut (p := 37) (L1 := [some (.ref v0), some (.int v1), some (.int z4.1), some (.int (1 : Int32)), none]) rfl rfl))))) (zgo rfl (z_iload_n cd_X9_faultOfForm_33 (j := 1) rfl rfl (p := 34) rfl (zgo rfl (z_iret cd_X9_faultOfForm_34 rfl)))))))))))))))))))))))))))))))
theorem bk_X9_faultOfForm_37 (C : yC) (A : yM) (v0 : Nat) (v1 : Int32) (v2 : Int32) (v3 : Int32) : yb_X9_faultOfForm C (37, [some (.ref v0), some (.int v1), some (.int v2), some (.int v3), none], [], A) = if (v2 + (1 : Int32)) < v3 then (yb_X9_faultOfForm C (11, [some (.ref v0), some (.int (v1 + (v2 + (2 : Int32)))), none, none, none], [], A)) else ((yi (yvt [(7, 55)] C [.ref v0, .int (v1 + v3)] A)).bind (fun z1 => if z1.1 = 0 then (ygI z1.2 v0 7 4 (fun x4 => some (some (.int x4), z1.2))) else (ygR z1.2 v0 7 5 (fun a2 => yrd z1.2 a2 (v1 + v3) (fun x3 => if v2 < v3 then (if x3 = (59 : Int32) then (yb_X9_faultOfForm C (37, [some (.ref v0), some (.int v1), some (.int v2), some (.int (v3 + (1 : Int32))), none], [], z1.2)) else (some (some (.int (v1 + v3)), z1.2))) else (if x3 < (48 : Int32) then (some (some (.int (v1 + v3)), z1.2)) else (if x3 ≤ (57 : Int32) then (yb_X9_faultOfForm C (37, [some (.ref v0), some (.int v1), some (.int v2), some (.int (v3 + (1 : Int32))), none], [], z1.2)) else (some (some (.int (v1 + v3)), z1.2))))))))) := (ybig_blk 33 _).trans (z_iload_n cd_X9_faultOfForm_37 (j := 3) rfl rfl (p := 38) rfl (zgo rfl (z_iload_n cd_X9_faultOfForm_38 (j := 2) rfl rfl (p := 39) rfl (zgo rfl (z_iconst cd_X9_faultOfForm_39 ki_1 (p := 40) rfl (zgo rfl (z_iadd cd_X9_faultOfForm_40 (p := 41) rfl (zgo rfl (z_ic_gt cd_X9_faultOfForm_41 (p := 108) rfl (p2 := 44) rfl (zgo rfl (z_iload_n cd_X9_faultOfForm_108 (j := 1) rfl rfl (p := 109) rfl (zgo rfl (z_iload_n cd_X9_faultOfForm_109 (j := 2) rfl rfl (p := 110) rfl (zgo rfl (z_iconst cd_X9_faultOfForm_110 ki_2 (p := 111) rfl (zgo rfl (z_iadd cd_X9_faultOfForm_111 (p := 112) rfl (zgo rfl (z_iadd cd_X9_faultOfForm_112 (p := 113) rfl (zgo rfl (z_istore_n cd_X9_faultOfForm_113 (j := 1) (L1 := [some (.ref v0), some (.int (v1 + (v2 + (2 : Int32)))), some (.int v2), some (.int v3), none]) rfl rfl (p := 114) rfl (zgo rfl (z_goto cd_X9_faultOfForm_114 (p := 11) rfl (zcut (p := 11) (L1 := [some (.ref v0), some (.int (v1 + (v2 + (2 : Int32)))), none, none, none]) rfl rfl))))))))))))))) (zgo rfl (z_aload_n cd_X9_faultOfForm_44 (j := 0) rfl rfl (p := 45) rfl (zgo rfl (z_iload_n cd_X9_faultOfForm_45 (j := 1) rfl rfl (p := 46) rfl (zgo rfl (z_iload_n cd_X9_faultOfForm_46 (j := 3) rfl rfl (p := 47) rfl (zgo rfl (z_iadd cd_X9_faultOfForm_47 (p := 48) rfl (zgo rfl (z_cv1 (vs := [.ref v0, .int (v1 + v3)]) (rest := []) cd_X9_faultOfForm_48 (zv (key := 75) (by decide)) cl_X9_c75 rfl rfl rfl rfl (p := 51) rfl (fun z1 => (zgo rfl (z_if_ne cd_X9_faultOfForm_51 (p := 59) rfl (p2 := 54) rfl (zgo rfl (z_aload_n cd_X9_faultOfForm_54 (j := 0) rfl rfl (p := 55) rfl (zgo rfl (z_getI cd_X9_faultOfForm_55 fd_X9_9 (p := 58) rfl (fun x4 => (zgo rfl (z_iret cd_X9_faultOfForm_58 rfl))))))) (zgo rfl (z_aload_n cd_X9_faultOfForm_59 (j := 0) rfl rfl (p := 60) rfl (zgo rfl (z_getR cd_X9_faultOfForm_60 fd_X9_15 (p := 63) rfl (fun a2 => (zgo rfl (z_iload_n cd_X9_faultOfForm_63 (j := 1) rfl rfl (p := 64) rfl (zgo rfl (z_iload_n cd_X9_faultOfForm_64 (j := 3) rfl rfl (p := 65) rfl (zgo rfl (z_iadd cd_X9_faultOfForm_65 (p := 66) rfl (zgo rfl (z_iaload cd_X9_faultOfForm_66 (p := 67) rfl (fun x3 => (zgo rfl (z_istore cd_X9_faultOfForm_67 (L1 := [some (.ref v0), some (.int v1), some (.int v2), some (.int v3), some (.int x3)]) rfl (p := 69) rfl (zgo rfl (z_iload_n cd_X9_faultOfForm_69 (j := 3) rfl rfl (p := 70) rfl (zgo rfl (z_iload_n cd_X9_faultOfForm_70 (j := 2) rfl rfl (p := 71) rfl (zgo rfl (z_ic_gt cd_X9_faultOfForm_71 (p := 91) rfl (p2 := 74) rfl (zgo rfl (z_iload cd_X9_faultOfForm_91 rfl (p := 93) rfl (zgo rfl (z_bipush cd_X9_faultOfForm_93 kb_59 (p := 95) rfl (zgo rfl (z_ic_eq cd_X9_faultOfForm_95 (p := 102) rfl (p2 := 98) rfl (zgo rfl (z_iinc cd_X9_faultOfForm_102 ki_1 (L1 := [some (.ref v0), some (.int v1), some (.int v2), some (.int (v3 + (1 : Int32))), some (.int x3)]) rfl rfl (p := 105) rfl (zgo rfl (z_goto cd_X9_faultOfForm_105 (p := 37) rfl (zcut (p := 37) (L1 := [some (.ref v0), some (.int v1), some (.int v2), some (.int (v3 + (1 : Int32))), none]) rfl rfl))))) (zgo rfl (z_iload_n cd_X9_faultOfForm_98 (j := 1) rfl rfl (p := 99) rfl (zgo rfl (z_iload_n cd_X9_faultOfForm_99 (j := 3) rfl rfl (p := 100) rfl (zgo rfl (z_iadd cd_X9_faultOfForm_100 (p := 101) rfl (zgo rfl (z_iret cd_X9_faultOfForm_101 rfl)))))))))))))) (zgo rfl (z_iload cd_X9_faultOfForm_74 rfl (p := 76) rfl (zgo rfl (z_bipush cd_X9_faultOfForm_76 kb_48 (p := 78) rfl (zgo rfl (z_ic_lt cd_X9_faultOfForm_78 (p := 98) rfl (p2 := 81) rfl (zgo rfl (z_iload_n cd_X9_faultOfForm_98 (j := 1) rfl rfl (p := 99) rfl (zgo rfl (z_iload_n cd_X9_faultOfForm_99 (j := 3) rfl rfl (p := 100) rfl (zgo rfl (z_iadd cd_X9_faultOfForm_100 (p := 101) rfl (zgo rfl (z_iret cd_X9_faultOfForm_101 rfl)))))))) (zgo rfl (z_iload cd_X9_faultOfForm_81 rfl (p := 83) rfl (zgo rfl (z_bipush cd_X9_faultOfForm_83 kb_57 (p := 85) rfl (zgo rfl (z_ic_le cd_X9_faultOfForm_85 (p := 102) rfl (p2 := 88) rfl (zgo rfl (z_iinc cd_X9_faultOfForm_102 ki_1 (L1 := [some (.ref v0), some (.int v1), some (.int v2), some (.int (v3 + (1 : Int32))), some (.int x3)]) rfl rfl (p := 105) rfl (zgo rfl (z_goto cd_X9_faultOfForm_105 (p := 37) rfl (zcut (p := 37) (L1 := [some (.ref v0), some (.int v1), some (.int v2), some (.int (v3 + (1 : Int32))), none]) rfl rfl))))) (zgo rfl (z_goto cd_X9_faultOfForm_88 (p := 98) rfl (zgo rfl (z_iload_n cd_X9_faultOfForm_98 (j := 1) rfl rfl (p := 99) rfl (zgo rfl (z_iload_n cd_X9_faultOfForm_99 (j := 3) rfl rfl (p := 100) rfl (zgo rfl (z_iadd cd_X9_faultOfForm_100 (p := 101) rfl (zgo rfl (z_iret cd_X9_faultOfForm_101 rfl))))))))))))))))))))))))))))))))))))))))))))))))))))))))))))))))))
theorem cd_X9_statements_0 : ylk m_X9_statements.2.2.2.2.1 0 = some (.iconst 0) := by decide +kernel
theorem cd_X9_statements_1 : ylk m_X9_statements.2.2.2.2.1 1 = some (.istore_n 1) := by decide +kernel
theorem cd_X9_statements_2 : ylk m_X9_statements.2.2.2.2.1 2 = some (.iconst 0) := by decide +kernel
theorem cd_X9_statements_3 : ylk m_X9_statements.2.2.2.2.1 3 = some (.istore_n 2) := by decide +kernel
theorem cd_X9_statements_4 : ylk m_X9_statements.2.2.2.2.1 4 = some (.iload_n 2) := by decide +kernel
theorem cd_X9_statements_5 : ylk m_X9_statements.2.2.2.2.1 5 = some (.aload_n 0) := by decide +kernel
theorem cd_X9_statements_6 : ylk m_X9_statements.2.2.2.2.1 6 = some (.getfield 9) := by decide +kernel
theorem cd_X9_statements_9 : ylk m_X9_statements.2.2.2.2.1 9 = some (.if_icmp .ge 23) := by decide +kernel
theorem cd_X9_statements_12 : ylk m_X9_statements.2.2.2.2.1 12 = some (.aload_n 0) := by decide +kernel
theorem cd_X9_statements_13 : ylk m_X9_statements.2.2.2.2.1 13 = some (.getfield 15) := by decide +kernel
theorem cd_X9_statements_16 : ylk m_X9_statements.2.2.2.2.1 16 = some (.iload_n 2) := by decide +kernel
theorem cd_X9_statements_17 : ylk m_X9_statements.2.2.2.2.1 17 = some (.iaload) := by decide +kernel
theorem cd_X9_statements_18 : ylk m_X9_statements.2.2.2.2.1 18 = some (.bipush 59) := by decide +kernel
theorem cd_X9_statements_20 : ylk m_X9_statements.2.2.2.2.1 20 = some (.if_icmp .ne 6) := by decide +kernel
theorem cd_X9_statements_23 : ylk m_X9_statements.2.2.2.2.1 23 = some (.iinc 1 1) := by decide +kernel
theorem cd_X9_statements_26 : ylk m_X9_statements.2.2.2.2.1 26 = some (.iinc 2 1) := by decide +kernel
theorem cd_X9_statements_29 : ylk m_X9_statements.2.2.2.2.1 29 = some (.goto (-25)) := by decide +kernel
theorem cd_X9_statements_32 : ylk m_X9_statements.2.2.2.2.1 32 = some (.iload_n 1) := by decide +kernel
theorem cd_X9_statements_33 : ylk m_X9_statements.2.2.2.2.1 33 = some (.ireturn) := by decide +kernel
noncomputable abbrev yb_X9_statements (C : yC) : ySt → Option (Option Value × yM) := yrn m_X9_statements C
theorem en_X9_statements (n : Nat) (A : yM) (v0 : Nat) : ycall (n + 1) 65 [.ref v0] A = yb_X9_statements (ycall n) (4, [some (.ref v0), some (.int (0 : Int32)), some (.int (0 : Int32))], [], A) := (ybig_blk 5 _).trans (z_iconst cd_X9_statements_0 ki_0 (p := 1) rfl (zgo rfl (z_istore_n cd_X9_statements_1 (j := 1) (L1 := [some (.ref v0), some (.int (0 : Int32)), none]) rfl rfl (p := 2) rfl (zgo rfl (z_iconst cd_X9_statements_2 ki_0 (p := 3) rfl (zgo rfl (z_istore_n cd_X9_statements_3 (j := 2) (L1 := [some (.ref v0), some (.int (0 : Int32)), some (.int (0 : Int32))]) rfl rfl (p := 4) rfl (zcut (p := 4) (L1 := [some (.ref v0), some (.int (0 : Int32)), some (.int (0 : Int32))]) rfl rfl))))))))
theorem bk_X9_statements_4 (C : yC) (A : yM) (v0 : Nat) (v1 : Int32) (v2 : Int32) : yb_X9_statements C (4, [some (.ref v0), some (.int v1), some (.int v2)], [], A) = ygI A v0 7 4 (fun x1 => if x1 ≤ v2 then (some (some (.int v1), A)) else (ygR A v0 7 5 (fun a2 => yrd A a2 v2 (fun x3 => if x3 = (59 : Int32) then (yb_X9_statements C (4, [some (.ref v0), some (.int (v1 + (1 : Int32))), some (.int (v2 + (1 : Int32)))], [], A)) else (yb_X9_statements C (4, [some (.ref v0), some (.int v1), some (.int (v2 + (1 : Int32)))], [], A)))))) := (ybig_blk 14 _).trans (z_iload_n cd_X9_statements_4 (j := 2) rfl rfl (p := 5) rfl (zgo rfl (z_aload_n cd_X9_statements_5 (j := 0) rfl rfl (p := 6) rfl (zgo rfl (z_getI cd_X9_statements_6 fd_X9_9 (p := 9) rfl (fun x1 => (zgo rfl (z_ic_ge cd_X9_statements_9 (p := 32) rfl (p2 := 12) rfl (zgo rfl (z_iload_n cd_X9_statements_32 (j := 1) rfl rfl (p := 33) rfl (zgo rfl (z_iret cd_X9_statements_33 rfl)))) (zgo rfl (z_aload_n cd_X9_statements_12 (j := 0) rfl rfl (p := 13) rfl (zgo rfl (z_getR cd_X9_statements_13 fd_X9_15 (p := 16) rfl (fun a2 => (zgo rfl (z_iload_n cd_X9_statements_16 (j := 2) rfl rfl (p := 17) rfl (zgo rfl (z_iaload cd_X9_statements_17 (p := 18) rfl (fun x3 => (zgo rfl (z_bipush cd_X9_statements_18 kb_59 (p := 20) rfl (zgo rfl (z_ic_ne cd_X9_statements_20 (p := 26) rfl (p2 := 23) rfl (zgo rfl (z_iinc cd_X9_statements_23 ki_1 (L1 := [some (.ref v0), some (.int (v1 + (1 : Int32))), some (.int v2)]) rfl rfl (p := 26) rfl (zgo rfl (z_iinc cd_X9_statements_26 ki_1 (L1 := [some (.ref v0), some (.int (v1 + (1 : Int32))), some (.int (v2 + (1 : Int32)))]) rfl rfl (p := 29) rfl (zgo rfl (z_goto cd_X9_statements_29 (p := 4) rfl (zcut (p := 4) (L1 := [some (.ref v0), some (.int (v1 + (1 : Int32))), some (.int (v2 + (1 : Int32)))]) rfl rfl))))))) (zgo rfl (z_iinc cd_X9_statements_26 ki_1 (L1 := [some (.ref v0), some (.int v1), some (.int (v2 + (1 : Int32)))]) rfl rfl (p := 29) rfl (zgo rfl (z_goto cd_X9_statements_29 (p := 4) rfl (zcut (p := 4) (L1 := [some (.ref v0), some (.int v1), some (.int (v2 + (1 : Int32)))]) rfl rfl)))))))))))))))))))))))))))
theorem cd_X9_faultOfDeed_0 : ylk m_X9_faultOfDeed.2.2.2.2.1 0 = some (.iconst 0) := by decide +kernel
theorem cd_X9_faultOfDeed_1 : ylk m_X9_faultOfDeed.2.2.2.2.1 1 = some (.istore_n 2) := by decide +kernel
theorem cd_X9_faultOfDeed_2 : ylk m_X9_faultOfDeed.2.2.2.2.1 2 = some (.iload_n 2) := by decide +kernel
theorem cd_X9_faultOfDeed_3 : ylk m_X9_faultOfDeed.2.2.2.2.1 3 = some (.aload_n 0) := by decide +kernel
theorem cd_X9_faultOfDeed_4 : ylk m_X9_faultOfDeed.2.2.2.2.1 4 = some (.getfield 9) := by decide +kernel
theorem cd_X9_faultOfDeed_7 : ylk m_X9_faultOfDeed.2.2.2.2.1 7 = some (.if_icmp .ge 49) := by decide +kernel
theorem cd_X9_faultOfDeed_10 : ylk m_X9_faultOfDeed.2.2.2.2.1 10 = some (.aload_n 0) := by decide +kernel
theorem cd_X9_faultOfDeed_11 : ylk m_X9_faultOfDeed.2.2.2.2.1 11 = some (.getfield 15) := by decide +kernel
theorem cd_X9_faultOfDeed_14 : ylk m_X9_faultOfDeed.2.2.2.2.1 14 = some (.iload_n 2) := by decide +kernel
theorem cd_X9_faultOfDeed_15 : ylk m_X9_faultOfDeed.2.2.2.2.1 15 = some (.iaload) := by decide +kernel
theorem cd_X9_faultOfDeed_16 : ylk m_X9_faultOfDeed.2.2.2.2.1 16 = some (.invokestatic 19) := by decide +kernel
theorem cd_X9_faultOfDeed_19 : ylk m_X9_faultOfDeed.2.2.2.2.1 19 = some (.istore_n 3) := by decide +kernel
theorem cd_X9_faultOfDeed_20 : ylk m_X9_faultOfDeed.2.2.2.2.1 20 = some (.iload_n 3) := by decide +kernel
theorem cd_X9_faultOfDeed_21 : ylk m_X9_faultOfDeed.2.2.2.2.1 21 = some (.ifCond .lt 24) := by decide +kernel
theorem cd_X9_faultOfDeed_24 : ylk m_X9_faultOfDeed.2.2.2.2.1 24 = some (.aload_n 0) := by decide +kernel
theorem cd_X9_faultOfDeed_25 : ylk m_X9_faultOfDeed.2.2.2.2.1 25 = some (.iload_n 2) := by decide +kernel
theorem cd_X9_faultOfDeed_26 : ylk m_X9_faultOfDeed.2.2.2.2.1 26 = some (.iload_n 3) := by decide +kernel
theorem cd_X9_faultOfDeed_27 : ylk m_X9_faultOfDeed.2.2.2.2.1 27 = some (.iadd) := by decide +kernel
theorem cd_X9_faultOfDeed_28 : ylk m_X9_faultOfDeed.2.2.2.2.1 28 = some (.iconst 1) := by decide +kernel
theorem cd_X9_faultOfDeed_29 : ylk m_X9_faultOfDeed.2.2.2.2.1 29 = some (.iadd) := by decide +kernel
theorem cd_X9_faultOfDeed_30 : ylk m_X9_faultOfDeed.2.2.2.2.1 30 = some (.invokevirtual 25) := by decide +kernel
theorem cd_X9_faultOfDeed_33 : ylk m_X9_faultOfDeed.2.2.2.2.1 33 = some (.ifCond .eq 12) := by decide +kernel
theorem cd_X9_faultOfDeed_36 : ylk m_X9_faultOfDeed.2.2.2.2.1 36 = some (.aload_n 0) := by decide +kernel
theorem cd_X9_faultOfDeed_37 : ylk m_X9_faultOfDeed.2.2.2.2.1 37 = some (.iload_n 2) := by decide +kernel
theorem cd_X9_faultOfDeed_38 : ylk m_X9_faultOfDeed.2.2.2.2.1 38 = some (.aload_n 1) := by decide +kernel
theorem cd_X9_faultOfDeed_39 : ylk m_X9_faultOfDeed.2.2.2.2.1 39 = some (.invokestatic 29) := by decide +kernel
theorem cd_X9_faultOfDeed_42 : ylk m_X9_faultOfDeed.2.2.2.2.1 42 = some (.ifCond .ge 5) := by decide +kernel
theorem cd_X9_faultOfDeed_45 : ylk m_X9_faultOfDeed.2.2.2.2.1 45 = some (.iload_n 2) := by decide +kernel
theorem cd_X9_faultOfDeed_46 : ylk m_X9_faultOfDeed.2.2.2.2.1 46 = some (.ireturn) := by decide +kernel
theorem cd_X9_faultOfDeed_47 : ylk m_X9_faultOfDeed.2.2.2.2.1 47 = some (.iload_n 2) := by decide +kernel
theorem cd_X9_faultOfDeed_48 : ylk m_X9_faultOfDeed.2.2.2.2.1 48 = some (.iload_n 3) := by decide +kernel
theorem cd_X9_faultOfDeed_49 : ylk m_X9_faultOfDeed.2.2.2.2.1 49 = some (.iconst 2) := by decide +kernel
theorem cd_X9_faultOfDeed_50 : ylk m_X9_faultOfDeed.2.2.2.2.1 50 = some (.iadd) := by decide +kernel
theorem cd_X9_faultOfDeed_51 : ylk m_X9_faultOfDeed.2.2.2.2.1 51 = some (.iadd) := by decide +kernel
theorem cd_X9_faultOfDeed_52 : ylk m_X9_faultOfDeed.2.2.2.2.1 52 = some (.istore_n 2) := by decide +kernel
theorem cd_X9_faultOfDeed_53 : ylk m_X9_faultOfDeed.2.2.2.2.1 53 = some (.goto (-51)) := by decide +kernel
theorem cd_X9_faultOfDeed_56 : ylk m_X9_faultOfDeed.2.2.2.2.1 56 = some (.iconst (-1)) := by decide +kernel
theorem cd_X9_faultOfDeed_57 : ylk m_X9_faultOfDeed.2.2.2.2.1 57 = some (.ireturn) := by decide +kernel
noncomputable abbrev yb_X9_faultOfDeed (C : yC) : ySt → Option (Option Value × yM) := yrn m_X9_faultOfDeed C
theorem en_X9_faultOfDeed (n : Nat) (A : yM) (v0 : Nat) (v1 : Nat) : ycall (n + 1) 66 [.ref v0, .ref v1] A = yb_X9_faultOfDeed (ycall n) (2, [some (.ref v0), some (.ref v1), some (.int (0 : Int32)), none], [], A) := (ybig_blk 3 _).trans (z_iconst cd_X9_faultOfDeed_0 ki_0 (p := 1) rfl (zgo rfl (z_istore_n cd_X9_faultOfDeed_1 (j := 2) (L1 := [some (.ref v0), some (.ref v1), some (.int (0 : Int32)), none]) rfl rfl (p := 2) rfl (zcut (p := 2) (L1 := [some (.ref v0), some (.ref v1), some (.int (0 : Int32)), none]) rfl rfl))))
theorem bk_X9_faultOfDeed_2 (C : yC) (A : yM) (v0 : Nat) (v1 : Nat) (v2 : Int32) : yb_X9_faultOfDeed C (2, [some (.ref v0), some (.ref v1), some (.int v2), none], [], A) = ygI A v0 7 4 (fun x1 => if x1 ≤ v2 then (some (some (.int (-1 : Int32)), A)) else (ygR A v0 7 5 (fun a2 => yrd A a2 v2 (fun x3 => (yi (C 63 [.int x3] A)).bind (fun z4 => if z4.1 < 0 then (some (some (.int v2), z4.2)) else ((yi (yvt [(7, 55)] C [.ref v0, .int ((v2 + z4.1) + (1 : Int32))] z4.2)).bind (fun z5 => if z5.1 = 0 then (some (some (.int v2), z5.2)) else ((yi (C 67 [.ref v0, .int v2, .ref v1] z5.2)).bind (fun z6 => if 0 ≤ z6.1 then (yb_X9_faultOfDeed C (2, [some (.ref v0), some (.ref v1), some (.int (v2 + (z4.1 + (2 : Int32)))), none], [], z6.2)) else (some (some (.int v2), z6.2))))))))))) := (ybig_blk 33 _).trans (z_iload_n cd_X9_faultOfDeed_2 (j := 2) rfl rfl (p := 3) rfl (zgo rfl (z_aload_n cd_X9_faultOfDeed_3 (j := 0) rfl rfl (p := 4) rfl (zgo rfl (z_getI cd_X9_faultOfDeed_4 fd_X9_9 (p := 7) rfl (fun x1 => (zgo rfl (z_ic_ge cd_X9_faultOfDeed_7 (p := 56) rfl (p2 := 10) rfl (zgo rfl (z_iconst cd_X9_faultOfDeed_56 ki_m1 (p := 57) rfl (zgo rfl (z_iret cd_X9_faultOfDeed_57 rfl)))) (zgo rfl (z_aload_n cd_X9_faultOfDeed_10 (j := 0) rfl rfl (p := 11) rfl (zgo rfl (z_getR cd_X9_faultOfDeed_11 fd_X9_15 (p := 14) rfl (fun a2 => (zgo rfl (z_iload_n cd_X9_faultOfDeed_14 (j := 2) rfl rfl (p := 15) rfl (zgo rfl (z_iaload cd_X9_faultOfDeed_15 (p := 16) rfl (fun x3 => (zgo rfl (z_cs1 (vs := [.int x3]) (rest := []) cd_X9_faultOfDeed_16 (zs (key := 58) (by decide)) cl_X9_c58 rfl rfl rfl rfl (p := 19) rfl (fun z4 => (zgo rfl (z_istore_n cd_X9_faultOfDeed_19 (j := 3) (L1 := [some (.ref v0), some (.ref v1), some (.int v2), some (.int z4.1)]) rfl rfl (p := 20) rfl (zgo rfl (z_iload_n cd_X9_faultOfDeed_20 (j := 3) rfl rfl (p := 21) rfl (zgo rfl (z_if_lt cd_X9_faultOfDeed_21 (p := 45) rfl (p2 := 24) rfl (zgo rfl (z_iload_n cd_X9_faultOfDeed_45 (j := 2) rfl rfl (p := 46) rfl (zgo rfl (z_iret cd_X9_faultOfDeed_46 rfl)))) (zgo rfl (z_aload_n cd_X9_faultOfDeed_24 (j := 0) rfl rfl (p := 25) rfl (zgo rfl (z_iload_n cd_X9_faultOfDeed_25 (j := 2) rfl rfl (p := 26) rfl (zgo rfl (z_iload_n cd_X9_faultOfDeed_26 (j := 3) rfl rfl (p := 27) rfl (zgo rfl (z_iadd cd_X9_faultOfDeed_27 (p := 28) rfl (zgo rfl (z_iconst cd_X9_faultOfDeed_28 ki_1 (p := 29) rfl (zgo rfl (z_iadd cd_X9_faultOfDeed_29 (p := 30) rfl (zgo rfl (z_cv1 (vs := [.ref v0, .int ((v2 + z4.1) + (1 : Int32))]) (rest := []) cd_X9_faultOfDeed_30 (zv (key := 75) (by decide)) cl_X9_c75 rfl rfl rfl rfl (p := 33) rfl (fun z5 => (zgo rfl (z_if_eq cd_X9_faultOfDeed_33 (p := 45) rfl (p2 := 36) rfl (zgo rfl (z_iload_n cd_X9_faultOfDeed_45 (j := 2) rfl rfl (p := 46) rfl (zgo rfl (z_iret cd_X9_faultOfDeed_46 rfl)))) (zgo rfl (z_aload_n cd_X9_faultOfDeed_36 (j := 0) rfl rfl (p := 37) rfl (zgo rfl (z_iload_n cd_X9_faultOfDeed_37 (j := 2) rfl rfl (p := 38) rfl (zgo rfl (z_aload_n cd_X9_faultOfDeed_38 (j := 1) rfl rfl (p := 39) rfl (zgo rfl (z_cs1 (vs := [.ref v0, .int v2, .ref v1]) (rest := []) cd_X9_faultOfDeed_39 (zs (key := 88) (by decide)) cl_X9_c88 rfl rfl rfl rfl (p := 42) rfl (fun z6 => (zgo rfl (z_if_ge cd_X9_faultOfDeed_42 (p := 47) rfl (p2 := 45) rfl (zgo rfl (z_iload_n cd_X9_faultOfDeed_47 (j := 2) rfl rfl (p := 48) rfl (zgo rfl (z_iload_n cd_X9_faultOfDeed_48 (j := 3) rfl rfl (p := 49) rfl (zgo rfl (z_iconst cd_X9_faultOfDeed_49 ki_2 (p := 50) rfl (zgo rfl (z_iadd cd_X9_faultOfDeed_50 (p := 51) rfl (zgo rfl (z_iadd cd_X9_faultOfDeed_51 (p := 52) rfl (zgo rfl (z_istore_n cd_X9_faultOfDeed_52 (j := 2) (L1 := [some (.ref v0), some (.ref v1), some (.int (v2 + (z4.1 + (2 : Int32)))), some (.int z4.1)]) rfl rfl (p := 53) rfl (zgo rfl (z_goto cd_X9_faultOfDeed_53 (p := 2) rfl (zcut (p := 2) (L1 := [some (.ref v0), some (.ref v1), some (.int (v2 + (z4.1 + (2 : Int32)))), none]) rfl rfl))))))))))))))) (zgo rfl (z_iload_n cd_X9_faultOfDeed_45 (j := 2) rfl rfl (p := 46) rfl (zgo rfl (z_iret cd_X9_faultOfDeed_46 rfl)))))))))))))))))))))))))))))))))))))))))))))))))))))))))))
theorem cd_X9_answerOf_0 : ylk m_X9_answerOf.2.2.2.2.1 0 = some (.aload_n 0) := by decide +kernel
theorem cd_X9_answerOf_1 : ylk m_X9_answerOf.2.2.2.2.1 1 = some (.getfield 15) := by decide +kernel
theorem cd_X9_answerOf_4 : ylk m_X9_answerOf.2.2.2.2.1 4 = some (.iload_n 1) := by decide +kernel
theorem cd_X9_answerOf_5 : ylk m_X9_answerOf.2.2.2.2.1 5 = some (.iaload) := by decide +kernel
theorem cd_X9_answerOf_6 : ylk m_X9_answerOf.2.2.2.2.1 6 = some (.lookupswitch 145 #[(99, 102), (100, 121), (101, 69), (115, 50), (119, 133)]) := by decide +kernel
theorem cd_X9_answerOf_56 : ylk m_X9_answerOf.2.2.2.2.1 56 = some (.aload_n 2) := by decide +kernel
theorem cd_X9_answerOf_57 : ylk m_X9_answerOf.2.2.2.2.1 57 = some (.aload_n 0) := by decide +kernel
theorem cd_X9_answerOf_58 : ylk m_X9_answerOf.2.2.2.2.1 58 = some (.iload_n 1) := by decide +kernel
theorem cd_X9_answerOf_59 : ylk m_X9_answerOf.2.2.2.2.1 59 = some (.iconst 1) := by decide +kernel
theorem cd_X9_answerOf_60 : ylk m_X9_answerOf.2.2.2.2.1 60 = some (.iadd) := by decide +kernel
theorem cd_X9_answerOf_61 : ylk m_X9_answerOf.2.2.2.2.1 61 = some (.invokestatic 33) := by decide +kernel
theorem cd_X9_answerOf_64 : ylk m_X9_answerOf.2.2.2.2.1 64 = some (.aload_n 0) := by decide +kernel
theorem cd_X9_answerOf_65 : ylk m_X9_answerOf.2.2.2.2.1 65 = some (.iload_n 1) := by decide +kernel
theorem cd_X9_answerOf_66 : ylk m_X9_answerOf.2.2.2.2.1 66 = some (.iconst 2) := by decide +kernel
theorem cd_X9_answerOf_67 : ylk m_X9_answerOf.2.2.2.2.1 67 = some (.iadd) := by decide +kernel
theorem cd_X9_answerOf_68 : ylk m_X9_answerOf.2.2.2.2.1 68 = some (.invokestatic 33) := by decide +kernel
theorem cd_X9_answerOf_71 : ylk m_X9_answerOf.2.2.2.2.1 71 = some (.invokevirtual 37) := by decide +kernel
theorem cd_X9_answerOf_74 : ylk m_X9_answerOf.2.2.2.2.1 74 = some (.ireturn) := by decide +kernel
theorem cd_X9_answerOf_75 : ylk m_X9_answerOf.2.2.2.2.1 75 = some (.aload_n 2) := by decide +kernel
theorem cd_X9_answerOf_76 : ylk m_X9_answerOf.2.2.2.2.1 76 = some (.aload_n 0) := by decide +kernel
theorem cd_X9_answerOf_77 : ylk m_X9_answerOf.2.2.2.2.1 77 = some (.iload_n 1) := by decide +kernel
theorem cd_X9_answerOf_78 : ylk m_X9_answerOf.2.2.2.2.1 78 = some (.iconst 1) := by decide +kernel
theorem cd_X9_answerOf_79 : ylk m_X9_answerOf.2.2.2.2.1 79 = some (.iadd) := by decide +kernel
theorem cd_X9_answerOf_80 : ylk m_X9_answerOf.2.2.2.2.1 80 = some (.invokestatic 33) := by decide +kernel
theorem cd_X9_answerOf_83 : ylk m_X9_answerOf.2.2.2.2.1 83 = some (.aload_n 0) := by decide +kernel
theorem cd_X9_answerOf_84 : ylk m_X9_answerOf.2.2.2.2.1 84 = some (.iload_n 1) := by decide +kernel
theorem cd_X9_answerOf_85 : ylk m_X9_answerOf.2.2.2.2.1 85 = some (.iconst 2) := by decide +kernel
theorem cd_X9_answerOf_86 : ylk m_X9_answerOf.2.2.2.2.1 86 = some (.iadd) := by decide +kernel
theorem cd_X9_answerOf_87 : ylk m_X9_answerOf.2.2.2.2.1 87 = some (.invokestatic 33) := by decide +kernel
theorem cd_X9_answerOf_90 : ylk m_X9_answerOf.2.2.2.2.1 90 = some (.aload_n 0) := by decide +kernel
theorem cd_X9_answerOf_91 : ylk m_X9_answerOf.2.2.2.2.1 91 = some (.iload_n 1) := by decide +kernel
theorem cd_X9_answerOf_92 : ylk m_X9_answerOf.2.2.2.2.1 92 = some (.iconst 3) := by decide +kernel
theorem cd_X9_answerOf_93 : ylk m_X9_answerOf.2.2.2.2.1 93 = some (.iadd) := by decide +kernel
theorem cd_X9_answerOf_94 : ylk m_X9_answerOf.2.2.2.2.1 94 = some (.invokestatic 43) := by decide +kernel
theorem cd_X9_answerOf_97 : ylk m_X9_answerOf.2.2.2.2.1 97 = some (.aload_n 0) := by decide +kernel
theorem cd_X9_answerOf_98 : ylk m_X9_answerOf.2.2.2.2.1 98 = some (.iload_n 1) := by decide +kernel
theorem cd_X9_answerOf_99 : ylk m_X9_answerOf.2.2.2.2.1 99 = some (.iconst 5) := by decide +kernel
theorem cd_X9_answerOf_100 : ylk m_X9_answerOf.2.2.2.2.1 100 = some (.iadd) := by decide +kernel
theorem cd_X9_answerOf_101 : ylk m_X9_answerOf.2.2.2.2.1 101 = some (.invokestatic 43) := by decide +kernel
theorem cd_X9_answerOf_104 : ylk m_X9_answerOf.2.2.2.2.1 104 = some (.invokevirtual 46) := by decide +kernel
theorem cd_X9_answerOf_107 : ylk m_X9_answerOf.2.2.2.2.1 107 = some (.ireturn) := by decide +kernel
theorem cd_X9_answerOf_108 : ylk m_X9_answerOf.2.2.2.2.1 108 = some (.aload_n 2) := by decide +kernel
theorem cd_X9_answerOf_109 : ylk m_X9_answerOf.2.2.2.2.1 109 = some (.aload_n 0) := by decide +kernel
theorem cd_X9_answerOf_110 : ylk m_X9_answerOf.2.2.2.2.1 110 = some (.iload_n 1) := by decide +kernel
theorem cd_X9_answerOf_111 : ylk m_X9_answerOf.2.2.2.2.1 111 = some (.iconst 1) := by decide +kernel
theorem cd_X9_answerOf_112 : ylk m_X9_answerOf.2.2.2.2.1 112 = some (.iadd) := by decide +kernel
theorem cd_X9_answerOf_113 : ylk m_X9_answerOf.2.2.2.2.1 113 = some (.invokestatic 33) := by decide +kernel
theorem cd_X9_answerOf_116 : ylk m_X9_answerOf.2.2.2.2.1 116 = some (.aload_n 0) := by decide +kernel
theorem cd_X9_answerOf_117 : ylk m_X9_answerOf.2.2.2.2.1 117 = some (.iload_n 1) := by decide +kernel
theorem cd_X9_answerOf_118 : ylk m_X9_answerOf.2.2.2.2.1 118 = some (.iconst 2) := by decide +kernel
theorem cd_X9_answerOf_119 : ylk m_X9_answerOf.2.2.2.2.1 119 = some (.iadd) := by decide +kernel
theorem cd_X9_answerOf_120 : ylk m_X9_answerOf.2.2.2.2.1 120 = some (.invokestatic 43) := by decide +kernel
theorem cd_X9_answerOf_123 : ylk m_X9_answerOf.2.2.2.2.1 123 = some (.invokevirtual 50) := by decide +kernel
theorem cd_X9_answerOf_126 : ylk m_X9_answerOf.2.2.2.2.1 126 = some (.ireturn) := by decide +kernel
theorem cd_X9_answerOf_127 : ylk m_X9_answerOf.2.2.2.2.1 127 = some (.aload_n 2) := by decide +kernel
theorem cd_X9_answerOf_128 : ylk m_X9_answerOf.2.2.2.2.1 128 = some (.aload_n 0) := by decide +kernel
theorem cd_X9_answerOf_129 : ylk m_X9_answerOf.2.2.2.2.1 129 = some (.iload_n 1) := by decide +kernel
theorem cd_X9_answerOf_130 : ylk m_X9_answerOf.2.2.2.2.1 130 = some (.iconst 1) := by decide +kernel
theorem cd_X9_answerOf_131 : ylk m_X9_answerOf.2.2.2.2.1 131 = some (.iadd) := by decide +kernel
theorem cd_X9_answerOf_132 : ylk m_X9_answerOf.2.2.2.2.1 132 = some (.invokestatic 33) := by decide +kernel
theorem cd_X9_answerOf_135 : ylk m_X9_answerOf.2.2.2.2.1 135 = some (.invokevirtual 53) := by decide +kernel
theorem cd_X9_answerOf_138 : ylk m_X9_answerOf.2.2.2.2.1 138 = some (.ireturn) := by decide +kernel
theorem cd_X9_answerOf_139 : ylk m_X9_answerOf.2.2.2.2.1 139 = some (.aload_n 2) := by decide +kernel
theorem cd_X9_answerOf_140 : ylk m_X9_answerOf.2.2.2.2.1 140 = some (.aload_n 0) := by decide +kernel
theorem cd_X9_answerOf_141 : ylk m_X9_answerOf.2.2.2.2.1 141 = some (.iload_n 1) := by decide +kernel
theorem cd_X9_answerOf_142 : ylk m_X9_answerOf.2.2.2.2.1 142 = some (.iconst 1) := by decide +kernel
theorem cd_X9_answerOf_143 : ylk m_X9_answerOf.2.2.2.2.1 143 = some (.iadd) := by decide +kernel
theorem cd_X9_answerOf_144 : ylk m_X9_answerOf.2.2.2.2.1 144 = some (.invokestatic 43) := by decide +kernel
theorem cd_X9_answerOf_147 : ylk m_X9_answerOf.2.2.2.2.1 147 = some (.invokevirtual 56) := by decide +kernel
theorem cd_X9_answerOf_150 : ylk m_X9_answerOf.2.2.2.2.1 150 = some (.ireturn) := by decide +kernel
theorem cd_X9_answerOf_151 : ylk m_X9_answerOf.2.2.2.2.1 151 = some (.iconst (-1)) := by decide +kernel
theorem cd_X9_answerOf_152 : ylk m_X9_answerOf.2.2.2.2.1 152 = some (.ireturn) := by decide +kernel
noncomputable abbrev yb_X9_answerOf (C : yC) : ySt → Option (Option Value × yM) := yrn m_X9_answerOf C
theorem en_X9_answerOf (n : Nat) (A : yM) (v0 : Nat) (v1 : Int32) (v2 : Nat) : ycall (n + 1) 67 [.ref v0, .int v1, .ref v2] A = ygR A v0 7 5 (fun a1 => yrd A a1 v1 (fun x2 => (if x2 = (99 : Int32) then ((yi ((ycall n) 68 [.ref v0, .int (v1 + (1 : Int32))] A)).bind (fun z15 => (yi ((ycall n) 69 [.ref v0, .int (v1 + (2 : Int32))] z15.2)).bind (fun z16 => (yi (yvt [(0, 7)] (ycall n) [.ref v2, .int z15.1, .int z16.1] z16.2)).bind (fun z17 => some (some (.int z17.1), z17.2))))) else (if x2 = (100 : Int32) then ((yi ((ycall n) 68 [.ref v0, .int (v1 + (1 : Int32))] A)).bind (fun z13 => (yi (yvt [(0, 8)] (ycall n) [.ref v2, .int z13.1] z13.2)).bind (fun z14 => some (some (.int z14.1), z14.2)))) else (if x2 = (101 : Int32) then ((yi ((ycall n) 68 [.ref v0, .int (v1 + (1 : Int32))] A)).bind (fun z8 => (yi ((ycall n) 68 [.ref v0, .int (v1 + (2 : Int32))] z8.2)).bind (fun z9 => (yi ((ycall n) 69 [.ref v0, .int (v1 + (3 : Int32))] z9.2)).bind (fun z10 => (yi ((ycall n) 69 [.ref v0, .int (v1 + (5 : Int32))] z10.2)).bind (fun z11 => (yi (yvt [(0, 6)] (ycall n) [.ref v2, .int z8.1, .int z9.1, .int z10.1, .int z11.1] z11.2)).bind (fun z12 => some (some (.int z12.1), z12.2))))))) else (if x2 = (115 : Int32) then ((yi ((ycall n) 68 [.ref v0, .int (v1 + (1 : Int32))] A)).bind (fun z5 => (yi ((ycall n) 68 [.ref v0, .int (v1 + (2 : Int32))] z5.2)).bind (fun z6 => (yi (yvt [(0, 5)] (ycall n) [.ref v2, .int z5.1, .int z6.1] z6.2)).bind (fun z7 => some (some (.int z7.1), z7.2))))) else (if x2 = (119 : Int32) then ((yi ((ycall n) 69 [.ref v0, .int (v1 + (1 : Int32))] A)).bind (fun z3 => (yi (yvt [(0, 9)] (ycall n) [.ref v2, .int z3.1] z3.2)).bind (fun z4 => some (some (.int z4.1), z4.2)))) else (some (some (.int (-1 : Int32)), A))))))))) := (ybig_blk 29 _).trans (z_aload_n cd_X9_answerOf_0 (j := 0) rfl rfl (p := 1) rfl (zgo rfl (z_getR cd_X9_answerOf_1 fd_X9_15 (p := 4) rfl (fun a1 => (zgo rfl (z_iload_n cd_X9_answerOf_4 (j := 1) rfl rfl (p := 5) rfl (zgo rfl (z_iaload cd_X9_answerOf_5 (p := 6) rfl (fun x2 => (zgo rfl (z_lsw cd_X9_answerOf_6 (p := 151) rfl (ps := [(99, 108), (100, 127), (101, 75), (115, 56), (119, 139)]) rfl (z_swc ki_99 (zgo rfl (z_aload_n cd_X9_answerOf_108 (j := 2) rfl rfl (p := 109) rfl (zgo rfl (z_aload_n cd_X9_answerOf_109 (j := 0) rfl rfl (p := 110) rfl (zgo rfl (z_iload_n cd_X9_answerOf_110 (j := 1) rfl rfl (p := 111) rfl (zgo rfl (z_iconst cd_X9_answerOf_111 ki_1 (p := 112) rfl (zgo rfl (z_iadd cd_X9_answerOf_112 (p := 113) rfl (zgo rfl (z_cs1 (vs := [.ref v0, .int (v1 + (1 : Int32))]) (rest := [.ref v2]) cd_X9_answerOf_113 (zs (key := 100) (by decide)) cl_X9_c100 rfl rfl rfl rfl (p := 116) rfl (fun z15 => (zgo rfl (z_aload_n cd_X9_answerOf_116 (j := 0) rfl rfl (p := 117) rfl (zgo rfl (z_iload_n cd_X9_answerOf_117 (j := 1) rfl rfl (p := 118) rfl (zgo rfl (z_iconst cd_X9_answerOf_118 ki_2 (p := 119) rfl (zgo rfl (z_iadd cd_X9_answerOf_119 (p := 120) rfl (zgo rfl (z_cs1 (vs := [.ref v0, .int (v1 + (2 : Int32))]) (rest := [.int z15.1, .ref v2]) cd_X9_answerOf_120 (zs (key := 130) (by decide)) cl_X9_c130 rfl rfl rfl rfl (p := 123) rfl (fun z16 => (zgo rfl (z_cv1 (vs := [.ref v2, .int z15.1, .int z16.1]) (rest := []) cd_X9_answerOf_123 (zv (key := 150) (by decide)) cl_X9_c150 rfl rfl rfl rfl (p := 126) rfl (fun z17 => (zgo rfl (z_iret cd_X9_answerOf_126 rfl))))))))))))))))))))))))))))) (z_swc ki_100 (zgo rfl (z_aload_n cd_X9_answerOf_127 (j := 2) rfl rfl (p := 128) rfl (zgo rfl (z_aload_n cd_X9_answerOf_128 (j := 0) rfl rfl (p := 129) rfl (zgo rfl (z_iload_n cd_X9_answerOf_129 (j := 1) rfl rfl (p := 130) rfl (zgo rfl (z_iconst cd_X9_answerOf_130 ki_1 (p := 131) rfl (zgo rfl (z_iadd cd_X9_answerOf_131 (p := 132) rfl (zgo rfl (z_cs1 (vs := [.ref v0, .int (v1 + (1 : Int32))]) (rest := [.ref v2]) cd_X9_answerOf_132 (zs (key := 100) (by decide)) cl_X9_c100 rfl rfl rfl rfl (p := 135) rfl (fun z13 => (zgo rfl (z_cv1 (vs := [.ref v2, .int z13.1]) (rest := []) cd_X9_answerOf_135 (zv (key := 159) (by decide)) cl_X9_c159 rfl rfl rfl rfl (p := 138) rfl (fun z14 => (zgo rfl (z_iret cd_X9_answerOf_138 rfl)))))))))))))))))) (z_swc ki_101 (zgo rfl (z_aload_n cd_X9_answerOf_75 (j := 2) rfl rfl (p := 76) rfl (zgo rfl (z_aload_n cd_X9_answerOf_76 (j := 0) rfl rfl (p := 77) rfl (zgo rfl (z_iload_n cd_X9_answerOf_77 (j := 1) rfl rfl (p := 78) rfl (zgo rfl (z_iconst cd_X9_answerOf_78 ki_1 (p := 79) rfl (zgo rfl (z_iadd cd_X9_answerOf_79 (p := 80) rfl (zgo rfl (z_cs1 (vs := [.ref v0, .int (v1 + (1 : Int32))]) (rest := [.ref v2]) cd_X9_answerOf_80 (zs (key := 100) (by decide)) cl_X9_c100 rfl rfl rfl rfl (p := 83) rfl (fun z8 => (zgo rfl (z_aload_n cd_X9_answerOf_83 (j := 0) rfl rfl (p := 84) rfl (zgo rfl (z_iload_n cd_X9_answerOf_84 (j := 1) rfl rfl (p := 85) rfl (zgo rfl (z_iconst cd_X9_answerOf_85 ki_2 (p := 86) rfl (zgo rfl (z_iadd cd_X9_answerOf_86 (p := 87) rfl (zgo rfl (z_cs1 (vs := [.ref v0, .int (v1 + (2 : Int32))]) (rest := [.int z8.1, .ref v2]) cd_X9_answerOf_87 (zs (key := 100) (by decide)) cl_X9_c100 rfl rfl rfl rfl (p := 90) rfl (fun z9 => (zgo rfl (z_aload_n cd_X9_answerOf_90 (j := 0) rfl rfl (p := 91) rfl (zgo rfl (z_iload_n cd_X9_answerOf_91 (j := 1) rfl rfl (p := 92) rfl (zgo rfl (z_iconst cd_X9_answerOf_92 ki_3 (p := 93) rfl (zgo rfl (z_iadd cd_X9_answerOf_93 (p := 94) rfl (zgo rfl (z_cs1 (vs := [.ref v0, .int (v1 + (3 : Int32))]) (rest := [.int z9.1, .int z8.1, .ref v2]) cd_X9_answerOf_94 (zs (key := 130) (by decide)) cl_X9_c130 rfl rfl rfl rfl (p := 97) rfl (fun z10 => (zgo rfl (z_aload_n cd_X9_answerOf_97 (j := 0) rfl rfl (p := 98) rfl (zgo rfl (z_iload_n cd_X9_answerOf_98 (j := 1) rfl rfl (p := 99) rfl (zgo rfl (z_iconst cd_X9_answerOf_99 ki_5 (p := 100) rfl (zgo rfl (z_iadd cd_X9_answerOf_100 (p := 101) rfl (zgo rfl (z_cs1 (vs := [.ref v0, .int (v1 + (5 : Int32))]) (rest := [.int z10.1, .int z9.1, .int z8.1, .ref v2]) cd_X9_answerOf_101 (zs (key := 130) (by decide)) cl_X9_c130 rfl rfl rfl rfl (p := 104) rfl (fun z11 => (zgo rfl (z_cv1 (vs := [.ref v2, .int z8.1, .int z9.1, .int z10.1, .int z11.1]) (rest := []) cd_X9_answerOf_104 (zv (key := 138) (by decide)) cl_X9_c138 rfl rfl rfl rfl (p := 107) rfl (fun z12 => (zgo rfl (z_iret cd_X9_answerOf_107 rfl))))))))))))))))))))))))))))))))))))))))))))))))))) (z_swc ki_115 (zgo rfl (z_aload_n cd_X9_answerOf_56 (j := 2) rfl rfl (p := 57) rfl (zgo rfl (z_aload_n cd_X9_answerOf_57 (j := 0) rfl rfl (p := 58) rfl (zgo rfl (z_iload_n cd_X9_answerOf_58 (j := 1) rfl rfl (p := 59) rfl (zgo rfl (z_iconst cd_X9_answerOf_59 ki_1 (p := 60) rfl (zgo rfl (z_iadd cd_X9_answerOf_60 (p := 61) rfl (zgo rfl (z_cs1 (vs := [.ref v0, .int (v1 + (1 : Int32))]) (rest := [.ref v2]) cd_X9_answerOf_61 (zs (key := 100) (by decide)) cl_X9_c100 rfl rfl rfl rfl (p := 64) rfl (fun z5 => (zgo rfl (z_aload_n cd_X9_answerOf_64 (j := 0) rfl rfl (p := 65) rfl (zgo rfl (z_iload_n cd_X9_answerOf_65 (j := 1) rfl rfl (p := 66) rfl (zgo rfl (z_iconst cd_X9_answerOf_66 ki_2 (p := 67) rfl (zgo rfl (z_iadd cd_X9_answerOf_67 (p := 68) rfl (zgo rfl (z_cs1 (vs := [.ref v0, .int (v1 + (2 : Int32))]) (rest := [.int z5.1, .ref v2]) cd_X9_answerOf_68 (zs (key := 100) (by decide)) cl_X9_c100 rfl rfl rfl rfl (p := 71) rfl (fun z6 => (zgo rfl (z_cv1 (vs := [.ref v2, .int z5.1, .int z6.1]) (rest := []) cd_X9_answerOf_71 (zv (key := 111) (by decide)) cl_X9_c111 rfl rfl rfl rfl (p := 74) rfl (fun z7 => (zgo rfl (z_iret cd_X9_answerOf_74 rfl))))))))))))))))))))))))))))) (z_swc ki_119 (zgo rfl (z_aload_n cd_X9_answerOf_139 (j := 2) rfl rfl (p := 140) rfl (zgo rfl (z_aload_n cd_X9_answerOf_140 (j := 0) rfl rfl (p := 141) rfl (zgo rfl (z_iload_n cd_X9_answerOf_141 (j := 1) rfl rfl (p := 142) rfl (zgo rfl (z_iconst cd_X9_answerOf_142 ki_1 (p := 143) rfl (zgo rfl (z_iadd cd_X9_answerOf_143 (p := 144) rfl (zgo rfl (z_cs1 (vs := [.ref v0, .int (v1 + (1 : Int32))]) (rest := [.ref v2]) cd_X9_answerOf_144 (zs (key := 130) (by decide)) cl_X9_c130 rfl rfl rfl rfl (p := 147) rfl (fun z3 => (zgo rfl (z_cv1 (vs := [.ref v2, .int z3.1]) (rest := []) cd_X9_answerOf_147 (zv (key := 168) (by decide)) cl_X9_c168 rfl rfl rfl rfl (p := 150) rfl (fun z4 => (zgo rfl (z_iret cd_X9_answerOf_150 rfl)))))))))))))))))) (z_swn (zgo rfl (z_iconst cd_X9_answerOf_151 ki_m1 (p := 152) rfl (zgo rfl (z_iret cd_X9_answerOf_152 rfl)))))))))))))))))))))
theorem cd_X9_digit_0 : ylk m_X9_digit.2.2.2.2.1 0 = some (.aload_n 0) := by decide +kernel
theorem cd_X9_digit_1 : ylk m_X9_digit.2.2.2.2.1 1 = some (.getfield 15) := by decide +kernel
theorem cd_X9_digit_4 : ylk m_X9_digit.2.2.2.2.1 4 = some (.iload_n 1) := by decide +kernel
theorem cd_X9_digit_5 : ylk m_X9_digit.2.2.2.2.1 5 = some (.iaload) := by decide +kernel
theorem cd_X9_digit_6 : ylk m_X9_digit.2.2.2.2.1 6 = some (.bipush 48) := by decide +kernel
theorem cd_X9_digit_8 : ylk m_X9_digit.2.2.2.2.1 8 = some (.isub) := by decide +kernel
theorem cd_X9_digit_9 : ylk m_X9_digit.2.2.2.2.1 9 = some (.ireturn) := by decide +kernel
noncomputable abbrev yb_X9_digit (C : yC) : ySt → Option (Option Value × yM) := yrn m_X9_digit C
theorem en_X9_digit (n : Nat) (A : yM) (v0 : Nat) (v1 : Int32) : ycall (n + 1) 68 [.ref v0, .int v1] A = ygR A v0 7 5 (fun a1 => yrd A a1 v1 (fun x2 => some (some (.int (x2 - (48 : Int32))), A))) := (ybig_blk 8 _).trans (z_aload_n cd_X9_digit_0 (j := 0) rfl rfl (p := 1) rfl (zgo rfl (z_getR cd_X9_digit_1 fd_X9_15 (p := 4) rfl (fun a1 => (zgo rfl (z_iload_n cd_X9_digit_4 (j := 1) rfl rfl (p := 5) rfl (zgo rfl (z_iaload cd_X9_digit_5 (p := 6) rfl (fun x2 => (zgo rfl (z_bipush cd_X9_digit_6 kb_48 (p := 8) rfl (zgo rfl (z_isub cd_X9_digit_8 (p := 9) rfl (zgo rfl (z_iret cd_X9_digit_9 rfl)))))))))))))))
theorem cd_X9_twoDigits_0 : ylk m_X9_twoDigits.2.2.2.2.1 0 = some (.bipush 10) := by decide +kernel
theorem cd_X9_twoDigits_2 : ylk m_X9_twoDigits.2.2.2.2.1 2 = some (.aload_n 0) := by decide +kernel
theorem cd_X9_twoDigits_3 : ylk m_X9_twoDigits.2.2.2.2.1 3 = some (.iload_n 1) := by decide +kernel
theorem cd_X9_twoDigits_4 : ylk m_X9_twoDigits.2.2.2.2.1 4 = some (.invokestatic 33) := by decide +kernel
theorem cd_X9_twoDigits_7 : ylk m_X9_twoDigits.2.2.2.2.1 7 = some (.imul) := by decide +kernel
theorem cd_X9_twoDigits_8 : ylk m_X9_twoDigits.2.2.2.2.1 8 = some (.aload_n 0) := by decide +kernel
theorem cd_X9_twoDigits_9 : ylk m_X9_twoDigits.2.2.2.2.1 9 = some (.iload_n 1) := by decide +kernel
theorem cd_X9_twoDigits_10 : ylk m_X9_twoDigits.2.2.2.2.1 10 = some (.iconst 1) := by decide +kernel
theorem cd_X9_twoDigits_11 : ylk m_X9_twoDigits.2.2.2.2.1 11 = some (.iadd) := by decide +kernel
theorem cd_X9_twoDigits_12 : ylk m_X9_twoDigits.2.2.2.2.1 12 = some (.invokestatic 33) := by decide +kernel
theorem cd_X9_twoDigits_15 : ylk m_X9_twoDigits.2.2.2.2.1 15 = some (.iadd) := by decide +kernel
theorem cd_X9_twoDigits_16 : ylk m_X9_twoDigits.2.2.2.2.1 16 = some (.ireturn) := by decide +kernel
noncomputable abbrev yb_X9_twoDigits (C : yC) : ySt → Option (Option Value × yM) := yrn m_X9_twoDigits C
theorem en_X9_twoDigits (n : Nat) (A : yM) (v0 : Nat) (v1 : Int32) : ycall (n + 1) 69 [.ref v0, .int v1] A = (yi ((ycall n) 68 [.ref v0, .int v1] A)).bind (fun z1 => (yi ((ycall n) 68 [.ref v0, .int (v1 + (1 : Int32))] z1.2)).bind (fun z2 => some (some (.int (((10 : Int32) * z1.1) + z2.1)), z2.2))) := (ybig_blk 13 _).trans (z_bipush cd_X9_twoDigits_0 kb_10 (p := 2) rfl (zgo rfl (z_aload_n cd_X9_twoDigits_2 (j := 0) rfl rfl (p := 3) rfl (zgo rfl (z_iload_n cd_X9_twoDigits_3 (j := 1) rfl rfl (p := 4) rfl (zgo rfl (z_cs1 (vs := [.ref v0, .int v1]) (rest := [.int (10 : Int32)]) cd_X9_twoDigits_4 (zs (key := 100) (by decide)) cl_X9_c100 rfl rfl rfl rfl (p := 7) rfl (fun z1 => (zgo rfl (z_imul cd_X9_twoDigits_7 (p := 8) rfl (zgo rfl (z_aload_n cd_X9_twoDigits_8 (j := 0) rfl rfl (p := 9) rfl (zgo rfl (z_iload_n cd_X9_twoDigits_9 (j := 1) rfl rfl (p := 10) rfl (zgo rfl (z_iconst cd_X9_twoDigits_10 ki_1 (p := 11) rfl (zgo rfl (z_iadd cd_X9_twoDigits_11 (p := 12) rfl (zgo rfl (z_cs1 (vs := [.ref v0, .int (v1 + (1 : Int32))]) (rest := [.int ((10 : Int32) * z1.1)]) cd_X9_twoDigits_12 (zs (key := 100) (by decide)) cl_X9_c100 rfl rfl rfl rfl (p := 15) rfl (fun z2 => (zgo rfl (z_iadd cd_X9_twoDigits_15 (p := 16) rfl (zgo rfl (z_iret cd_X9_twoDigits_16 rfl)))))))))))))))))))))))))
theorem cd_X10_ripens_0 : ylk m_X10_ripens.2.2.2.2.1 0 = some (.aload_n 0) := by decide +kernel
theorem cd_X10_ripens_1 : ylk m_X10_ripens.2.2.2.2.1 1 = some (.iload_n 1) := by decide +kernel
theorem cd_X10_ripens_2 : ylk m_X10_ripens.2.2.2.2.1 2 = some (.iload_n 2) := by decide +kernel
theorem cd_X10_ripens_3 : ylk m_X10_ripens.2.2.2.2.1 3 = some (.invokespecial 7) := by decide +kernel
theorem cd_X10_ripens_6 : ylk m_X10_ripens.2.2.2.2.1 6 = some (.iload_n 1) := by decide +kernel
theorem cd_X10_ripens_7 : ylk m_X10_ripens.2.2.2.2.1 7 = some (.iconst 3) := by decide +kernel
theorem cd_X10_ripens_8 : ylk m_X10_ripens.2.2.2.2.1 8 = some (.idiv) := by decide +kernel
theorem cd_X10_ripens_9 : ylk m_X10_ripens.2.2.2.2.1 9 = some (.iadd) := by decide +kernel
theorem cd_X10_ripens_10 : ylk m_X10_ripens.2.2.2.2.1 10 = some (.ireturn) := by decide +kernel
noncomputable abbrev yb_X10_ripens (C : yC) : ySt → Option (Option Value × yM) := yrn m_X10_ripens C
theorem en_X10_ripens (n : Nat) (A : yM) (v0 : Nat) (v1 : Int32) (v2 : Int32) : ycall (n + 1) 70 [.ref v0, .int v1, .int v2] A = (yi (yvt [(1, 43), (2, 43), (3, 43), (4, 43), (5, 43), (6, 43), (8, 43), (9, 43)] (ycall n) [.ref v0, .int v1, .int v2] A)).bind (fun z1 => if (3 : Int32) = 0 then none else (some (some (.int (z1.1 + (v1 / (3 : Int32)))), z1.2))) := (ybig_blk 10 _).trans (z_aload_n cd_X10_ripens_0 (j := 0) rfl rfl (p := 1) rfl (zgo rfl (z_iload_n cd_X10_ripens_1 (j := 1) rfl rfl (p := 2) rfl (zgo rfl (z_iload_n cd_X10_ripens_2 (j := 2) rfl rfl (p := 3) rfl (zgo rfl (z_cv1 (vs := [.ref v0, .int v1, .int v2]) (rest := []) cd_X10_ripens_3 (zp (key := 23) (by decide)) cl_X10_c23 rfl rfl rfl rfl (p := 6) rfl (fun z1 => (zgo rfl (z_iload_n cd_X10_ripens_6 (j := 1) rfl rfl (p := 7) rfl (zgo rfl (z_iconst cd_X10_ripens_7 ki_3 (p := 8) rfl (zgo rfl (z_idiv cd_X10_ripens_8 (p := 9) rfl (zgo rfl (z_iadd cd_X10_ripens_9 (p := 10) rfl (zgo rfl (z_iret cd_X10_ripens_10 rfl))))))))))))))))))
theorem cd_X10_marked_0 : ylk m_X10_marked.2.2.2.2.1 0 = some (.aload_n 0) := by decide +kernel
theorem cd_X10_marked_1 : ylk m_X10_marked.2.2.2.2.1 1 = some (.iload_n 1) := by decide +kernel
theorem cd_X10_marked_2 : ylk m_X10_marked.2.2.2.2.1 2 = some (.iload_n 2) := by decide +kernel
theorem cd_X10_marked_3 : ylk m_X10_marked.2.2.2.2.1 3 = some (.iload_n 3) := by decide +kernel
theorem cd_X10_marked_4 : ylk m_X10_marked.2.2.2.2.1 4 = some (.iload 4) := by decide +kernel
theorem cd_X10_marked_6 : ylk m_X10_marked.2.2.2.2.1 6 = some (.invokespecial 11) := by decide +kernel
theorem cd_X10_marked_9 : ylk m_X10_marked.2.2.2.2.1 9 = some (.iload_n 3) := by decide +kernel
theorem cd_X10_marked_10 : ylk m_X10_marked.2.2.2.2.1 10 = some (.iadd) := by decide +kernel
theorem cd_X10_marked_11 : ylk m_X10_marked.2.2.2.2.1 11 = some (.ireturn) := by decide +kernel
noncomputable abbrev yb_X10_marked (C : yC) : ySt → Option (Option Value × yM) := yrn m_X10_marked C
theorem en_X10_marked (n : Nat) (A : yM) (v0 : Nat) (v1 : Int32) (v2 : Int32) (v3 : Int32) (v4 : Int32) : ycall (n + 1) 71 [.ref v0, .int v1, .int v2, .int v3, .int v4] A = (yi (yvt [(1, 44), (2, 44), (3, 44), (4, 44), (5, 44), (6, 44), (8, 44), (9, 44)] (ycall n) [.ref v0, .int v1, .int v2, .int v3, .int v4] A)).bind (fun z1 => some (some (.int (z1.1 + v3)), z1.2)) := (ybig_blk 10 _).trans (z_aload_n cd_X10_marked_0 (j := 0) rfl rfl (p := 1) rfl (zgo rfl (z_iload_n cd_X10_marked_1 (j := 1) rfl rfl (p := 2) rfl (zgo rfl (z_iload_n cd_X10_marked_2 (j := 2) rfl rfl (p := 3) rfl (zgo rfl (z_iload_n cd_X10_marked_3 (j := 3) rfl rfl (p := 4) rfl (zgo rfl (z_iload cd_X10_marked_4 rfl (p := 6) rfl (zgo rfl (z_cv1 (vs := [.ref v0, .int v1, .int v2, .int v3, .int v4]) (rest := []) cd_X10_marked_6 (zp (key := 35) (by decide)) cl_X10_c35 rfl rfl rfl rfl (p := 9) rfl (fun z1 => (zgo rfl (z_iload_n cd_X10_marked_9 (j := 3) rfl rfl (p := 10) rfl (zgo rfl (z_iadd cd_X10_marked_10 (p := 11) rfl (zgo rfl (z_iret cd_X10_marked_11 rfl))))))))))))))))))
