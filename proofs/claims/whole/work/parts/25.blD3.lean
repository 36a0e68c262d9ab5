theorem cd_X12_odds_0 : ylk m_X12_odds.2.2.2.2.1 0 = some (.aload_n 0) := by decide +kernel
theorem cd_X12_odds_1 : ylk m_X12_odds.2.2.2.2.1 1 = some (.iload_n 1) := by decide +kernel
theorem cd_X12_odds_2 : ylk m_X12_odds.2.2.2.2.1 2 = some (.invokevirtual 114) := by decide +kernel
theorem cd_X12_odds_5 : ylk m_X12_odds.2.2.2.2.1 5 = some (.ifCond .eq 34) := by decide +kernel
theorem cd_X12_odds_8 : ylk m_X12_odds.2.2.2.2.1 8 = some (.iload_n 2) := by decide +kernel
theorem cd_X12_odds_9 : ylk m_X12_odds.2.2.2.2.1 9 = some (.iconst 0) := by decide +kernel
theorem cd_X12_odds_10 : ylk m_X12_odds.2.2.2.2.1 10 = some (.sipush 999) := by decide +kernel
theorem cd_X12_odds_13 : ylk m_X12_odds.2.2.2.2.1 13 = some (.invokestatic 46) := by decide +kernel
theorem cd_X12_odds_16 : ylk m_X12_odds.2.2.2.2.1 16 = some (.ifCond .eq 23) := by decide +kernel
theorem cd_X12_odds_19 : ylk m_X12_odds.2.2.2.2.1 19 = some (.iload_n 3) := by decide +kernel
theorem cd_X12_odds_20 : ylk m_X12_odds.2.2.2.2.1 20 = some (.iconst 2) := by decide +kernel
theorem cd_X12_odds_21 : ylk m_X12_odds.2.2.2.2.1 21 = some (.bipush 20) := by decide +kernel
theorem cd_X12_odds_23 : ylk m_X12_odds.2.2.2.2.1 23 = some (.invokestatic 46) := by decide +kernel
theorem cd_X12_odds_26 : ylk m_X12_odds.2.2.2.2.1 26 = some (.ifCond .eq 13) := by decide +kernel
theorem cd_X12_odds_29 : ylk m_X12_odds.2.2.2.2.1 29 = some (.iload 4) := by decide +kernel
theorem cd_X12_odds_31 : ylk m_X12_odds.2.2.2.2.1 31 = some (.iconst 0) := by decide +kernel
theorem cd_X12_odds_32 : ylk m_X12_odds.2.2.2.2.1 32 = some (.iconst 1) := by decide +kernel
theorem cd_X12_odds_33 : ylk m_X12_odds.2.2.2.2.1 33 = some (.invokestatic 46) := by decide +kernel
theorem cd_X12_odds_36 : ylk m_X12_odds.2.2.2.2.1 36 = some (.ifCond .ne 7) := by decide +kernel
theorem cd_X12_odds_39 : ylk m_X12_odds.2.2.2.2.1 39 = some (.ldc2_w 199) := by decide +kernel
theorem cd_X12_odds_42 : ylk m_X12_odds.2.2.2.2.1 42 = some (.lreturn) := by decide +kernel
theorem cd_X12_odds_43 : ylk m_X12_odds.2.2.2.2.1 43 = some (.iconst 0) := by decide +kernel
theorem cd_X12_odds_44 : ylk m_X12_odds.2.2.2.2.1 44 = some (.istore 5) := by decide +kernel
theorem cd_X12_odds_46 : ylk m_X12_odds.2.2.2.2.1 46 = some (.lconst 1) := by decide +kernel
theorem cd_X12_odds_47 : ylk m_X12_odds.2.2.2.2.1 47 = some (.lstore 6) := by decide +kernel
theorem cd_X12_odds_49 : ylk m_X12_odds.2.2.2.2.1 49 = some (.iconst 0) := by decide +kernel
theorem cd_X12_odds_50 : ylk m_X12_odds.2.2.2.2.1 50 = some (.istore 8) := by decide +kernel
theorem cd_X12_odds_52 : ylk m_X12_odds.2.2.2.2.1 52 = some (.iload 8) := by decide +kernel
theorem cd_X12_odds_54 : ylk m_X12_odds.2.2.2.2.1 54 = some (.aload_n 0) := by decide +kernel
theorem cd_X12_odds_55 : ylk m_X12_odds.2.2.2.2.1 55 = some (.getfield 9) := by decide +kernel
theorem cd_X12_odds_58 : ylk m_X12_odds.2.2.2.2.1 58 = some (.iconst 1) := by decide +kernel
theorem cd_X12_odds_59 : ylk m_X12_odds.2.2.2.2.1 59 = some (.iaload) := by decide +kernel
theorem cd_X12_odds_60 : ylk m_X12_odds.2.2.2.2.1 60 = some (.if_icmp .ge 51) := by decide +kernel
theorem cd_X12_odds_63 : ylk m_X12_odds.2.2.2.2.1 63 = some (.iload 5) := by decide +kernel
theorem cd_X12_odds_65 : ylk m_X12_odds.2.2.2.2.1 65 = some (.aload_n 0) := by decide +kernel
theorem cd_X12_odds_66 : ylk m_X12_odds.2.2.2.2.1 66 = some (.getfield 9) := by decide +kernel
theorem cd_X12_odds_69 : ylk m_X12_odds.2.2.2.2.1 69 = some (.iload 8) := by decide +kernel
theorem cd_X12_odds_71 : ylk m_X12_odds.2.2.2.2.1 71 = some (.iconst 0) := by decide +kernel
theorem cd_X12_odds_72 : ylk m_X12_odds.2.2.2.2.1 72 = some (.invokestatic 54) := by decide +kernel
theorem cd_X12_odds_75 : ylk m_X12_odds.2.2.2.2.1 75 = some (.iaload) := by decide +kernel
theorem cd_X12_odds_76 : ylk m_X12_odds.2.2.2.2.1 76 = some (.iload_n 1) := by decide +kernel
theorem cd_X12_odds_77 : ylk m_X12_odds.2.2.2.2.1 77 = some (.if_icmp .ne 24) := by decide +kernel
theorem cd_X12_odds_80 : ylk m_X12_odds.2.2.2.2.1 80 = some (.aload_n 0) := by decide +kernel
theorem cd_X12_odds_81 : ylk m_X12_odds.2.2.2.2.1 81 = some (.getfield 9) := by decide +kernel
theorem cd_X12_odds_84 : ylk m_X12_odds.2.2.2.2.1 84 = some (.iload 8) := by decide +kernel
theorem cd_X12_odds_86 : ylk m_X12_odds.2.2.2.2.1 86 = some (.iconst 4) := by decide +kernel
theorem cd_X12_odds_87 : ylk m_X12_odds.2.2.2.2.1 87 = some (.invokestatic 54) := by decide +kernel
theorem cd_X12_odds_90 : ylk m_X12_odds.2.2.2.2.1 90 = some (.iaload) := by decide +kernel
theorem cd_X12_odds_91 : ylk m_X12_odds.2.2.2.2.1 91 = some (.ifCond .ne 10) := by decide +kernel
theorem cd_X12_odds_94 : ylk m_X12_odds.2.2.2.2.1 94 = some (.iconst 1) := by decide +kernel
theorem cd_X12_odds_95 : ylk m_X12_odds.2.2.2.2.1 95 = some (.iload 8) := by decide +kernel
theorem cd_X12_odds_97 : ylk m_X12_odds.2.2.2.2.1 97 = some (.ishl) := by decide +kernel
theorem cd_X12_odds_98 : ylk m_X12_odds.2.2.2.2.1 98 = some (.goto 4) := by decide +kernel
theorem cd_X12_odds_101 : ylk m_X12_odds.2.2.2.2.1 101 = some (.iconst 0) := by decide +kernel
theorem cd_X12_odds_102 : ylk m_X12_odds.2.2.2.2.1 102 = some (.ior) := by decide +kernel
theorem cd_X12_odds_103 : ylk m_X12_odds.2.2.2.2.1 103 = some (.istore 5) := by decide +kernel
theorem cd_X12_odds_105 : ylk m_X12_odds.2.2.2.2.1 105 = some (.iinc 8 1) := by decide +kernel
theorem cd_X12_odds_108 : ylk m_X12_odds.2.2.2.2.1 108 = some (.goto (-56)) := by decide +kernel
theorem cd_X12_odds_111 : ylk m_X12_odds.2.2.2.2.1 111 = some (.iconst 0) := by decide +kernel
theorem cd_X12_odds_112 : ylk m_X12_odds.2.2.2.2.1 112 = some (.istore 8) := by decide +kernel
theorem cd_X12_odds_114 : ylk m_X12_odds.2.2.2.2.1 114 = some (.iload 8) := by decide +kernel
theorem cd_X12_odds_116 : ylk m_X12_odds.2.2.2.2.1 116 = some (.iload 5) := by decide +kernel
theorem cd_X12_odds_118 : ylk m_X12_odds.2.2.2.2.1 118 = some (.invokestatic 248) := by decide +kernel
theorem cd_X12_odds_121 : ylk m_X12_odds.2.2.2.2.1 121 = some (.if_icmp .ge 16) := by decide +kernel
theorem cd_X12_odds_124 : ylk m_X12_odds.2.2.2.2.1 124 = some (.lload 6) := by decide +kernel
theorem cd_X12_odds_126 : ylk m_X12_odds.2.2.2.2.1 126 = some (.iload_n 3) := by decide +kernel
theorem cd_X12_odds_127 : ylk m_X12_odds.2.2.2.2.1 127 = some (.i2l) := by decide +kernel
theorem cd_X12_odds_128 : ylk m_X12_odds.2.2.2.2.1 128 = some (.lmul) := by decide +kernel
theorem cd_X12_odds_129 : ylk m_X12_odds.2.2.2.2.1 129 = some (.lstore 6) := by decide +kernel
theorem cd_X12_odds_131 : ylk m_X12_odds.2.2.2.2.1 131 = some (.iinc 8 1) := by decide +kernel
theorem cd_X12_odds_134 : ylk m_X12_odds.2.2.2.2.1 134 = some (.goto (-20)) := by decide +kernel
theorem cd_X12_odds_137 : ylk m_X12_odds.2.2.2.2.1 137 = some (.lconst 0) := by decide +kernel
theorem cd_X12_odds_138 : ylk m_X12_odds.2.2.2.2.1 138 = some (.lstore 8) := by decide +kernel
theorem cd_X12_odds_140 : ylk m_X12_odds.2.2.2.2.1 140 = some (.iload 5) := by decide +kernel
theorem cd_X12_odds_142 : ylk m_X12_odds.2.2.2.2.1 142 = some (.istore 10) := by decide +kernel
theorem cd_X12_odds_144 : ylk m_X12_odds.2.2.2.2.1 144 = some (.iload 10) := by decide +kernel
theorem cd_X12_odds_146 : ylk m_X12_odds.2.2.2.2.1 146 = some (.ifCond .lt 131) := by decide +kernel
theorem cd_X12_odds_149 : ylk m_X12_odds.2.2.2.2.1 149 = some (.lconst 1) := by decide +kernel
theorem cd_X12_odds_150 : ylk m_X12_odds.2.2.2.2.1 150 = some (.lstore 11) := by decide +kernel
theorem cd_X12_odds_152 : ylk m_X12_odds.2.2.2.2.1 152 = some (.iconst 0) := by decide +kernel
theorem cd_X12_odds_153 : ylk m_X12_odds.2.2.2.2.1 153 = some (.istore 13) := by decide +kernel
theorem cd_X12_odds_155 : ylk m_X12_odds.2.2.2.2.1 155 = some (.iconst 0) := by decide +kernel
theorem cd_X12_odds_156 : ylk m_X12_odds.2.2.2.2.1 156 = some (.istore 14) := by decide +kernel
theorem cd_X12_odds_158 : ylk m_X12_odds.2.2.2.2.1 158 = some (.iload 14) := by decide +kernel
theorem cd_X12_odds_160 : ylk m_X12_odds.2.2.2.2.1 160 = some (.aload_n 0) := by decide +kernel
theorem cd_X12_odds_161 : ylk m_X12_odds.2.2.2.2.1 161 = some (.getfield 9) := by decide +kernel
theorem cd_X12_odds_164 : ylk m_X12_odds.2.2.2.2.1 164 = some (.iconst 1) := by decide +kernel
theorem cd_X12_odds_165 : ylk m_X12_odds.2.2.2.2.1 165 = some (.iaload) := by decide +kernel
theorem cd_X12_odds_166 : ylk m_X12_odds.2.2.2.2.1 166 = some (.if_icmp .ge 73) := by decide +kernel
theorem cd_X12_odds_169 : ylk m_X12_odds.2.2.2.2.1 169 = some (.iload 5) := by decide +kernel
theorem cd_X12_odds_171 : ylk m_X12_odds.2.2.2.2.1 171 = some (.iload 14) := by decide +kernel
theorem cd_X12_odds_173 : ylk m_X12_odds.2.2.2.2.1 173 = some (.invokestatic 225) := by decide +kernel
theorem cd_X12_odds_176 : ylk m_X12_odds.2.2.2.2.1 176 = some (.ifCond .ne 6) := by decide +kernel
theorem cd_X12_odds_179 : ylk m_X12_odds.2.2.2.2.1 179 = some (.goto 54) := by decide +kernel
theorem cd_X12_odds_182 : ylk m_X12_odds.2.2.2.2.1 182 = some (.lload 11) := by decide +kernel
theorem cd_X12_odds_184 : ylk m_X12_odds.2.2.2.2.1 184 = some (.iload 10) := by decide +kernel
theorem cd_X12_odds_186 : ylk m_X12_odds.2.2.2.2.1 186 = some (.iload 14) := by decide +kernel
theorem cd_X12_odds_188 : ylk m_X12_odds.2.2.2.2.1 188 = some (.invokestatic 225) := by decide +kernel
theorem cd_X12_odds_191 : ylk m_X12_odds.2.2.2.2.1 191 = some (.ifCond .eq 7) := by decide +kernel
theorem cd_X12_odds_194 : ylk m_X12_odds.2.2.2.2.1 194 = some (.lconst 1) := by decide +kernel
theorem cd_X12_odds_195 : ylk m_X12_odds.2.2.2.2.1 195 = some (.goto 7) := by decide +kernel
theorem cd_X12_odds_198 : ylk m_X12_odds.2.2.2.2.1 198 = some (.iload_n 3) := by decide +kernel
theorem cd_X12_odds_199 : ylk m_X12_odds.2.2.2.2.1 199 = some (.iconst 1) := by decide +kernel
theorem cd_X12_odds_200 : ylk m_X12_odds.2.2.2.2.1 200 = some (.isub) := by decide +kernel
theorem cd_X12_odds_201 : ylk m_X12_odds.2.2.2.2.1 201 = some (.i2l) := by decide +kernel
theorem cd_X12_odds_202 : ylk m_X12_odds.2.2.2.2.1 202 = some (.lmul) := by decide +kernel
theorem cd_X12_odds_203 : ylk m_X12_odds.2.2.2.2.1 203 = some (.lstore 11) := by decide +kernel
theorem cd_X12_odds_205 : ylk m_X12_odds.2.2.2.2.1 205 = some (.iload 13) := by decide +kernel
theorem cd_X12_odds_207 : ylk m_X12_odds.2.2.2.2.1 207 = some (.iload 10) := by decide +kernel
theorem cd_X12_odds_209 : ylk m_X12_odds.2.2.2.2.1 209 = some (.iload 14) := by decide +kernel
theorem cd_X12_odds_211 : ylk m_X12_odds.2.2.2.2.1 211 = some (.invokestatic 225) := by decide +kernel
theorem cd_X12_odds_214 : ylk m_X12_odds.2.2.2.2.1 214 = some (.ifCond .eq 7) := by decide +kernel
theorem cd_X12_odds_217 : ylk m_X12_odds.2.2.2.2.1 217 = some (.iconst 0) := by decide +kernel
theorem cd_X12_odds_218 : ylk m_X12_odds.2.2.2.2.1 218 = some (.goto 12) := by decide +kernel
theorem cd_X12_odds_221 : ylk m_X12_odds.2.2.2.2.1 221 = some (.aload_n 0) := by decide +kernel
theorem cd_X12_odds_222 : ylk m_X12_odds.2.2.2.2.1 222 = some (.getfield 9) := by decide +kernel
theorem cd_X12_odds_225 : ylk m_X12_odds.2.2.2.2.1 225 = some (.iload 14) := by decide +kernel
theorem cd_X12_odds_227 : ylk m_X12_odds.2.2.2.2.1 227 = some (.invokestatic 74) := by decide +kernel
theorem cd_X12_odds_230 : ylk m_X12_odds.2.2.2.2.1 230 = some (.iadd) := by decide +kernel
theorem cd_X12_odds_231 : ylk m_X12_odds.2.2.2.2.1 231 = some (.istore 13) := by decide +kernel
theorem cd_X12_odds_233 : ylk m_X12_odds.2.2.2.2.1 233 = some (.iinc 14 1) := by decide +kernel
theorem cd_X12_odds_236 : ylk m_X12_odds.2.2.2.2.1 236 = some (.goto (-78)) := by decide +kernel
theorem cd_X12_odds_239 : ylk m_X12_odds.2.2.2.2.1 239 = some (.lload 8) := by decide +kernel
theorem cd_X12_odds_241 : ylk m_X12_odds.2.2.2.2.1 241 = some (.iload 13) := by decide +kernel
theorem cd_X12_odds_243 : ylk m_X12_odds.2.2.2.2.1 243 = some (.iload_n 2) := by decide +kernel
theorem cd_X12_odds_244 : ylk m_X12_odds.2.2.2.2.1 244 = some (.if_icmp .lt 8) := by decide +kernel
theorem cd_X12_odds_247 : ylk m_X12_odds.2.2.2.2.1 247 = some (.lload 11) := by decide +kernel
theorem cd_X12_odds_249 : ylk m_X12_odds.2.2.2.2.1 249 = some (.goto 4) := by decide +kernel
theorem cd_X12_odds_252 : ylk m_X12_odds.2.2.2.2.1 252 = some (.lconst 0) := by decide +kernel
theorem cd_X12_odds_253 : ylk m_X12_odds.2.2.2.2.1 253 = some (.ladd) := by decide +kernel
theorem cd_X12_odds_254 : ylk m_X12_odds.2.2.2.2.1 254 = some (.lstore 8) := by decide +kernel
theorem cd_X12_odds_256 : ylk m_X12_odds.2.2.2.2.1 256 = some (.iload 10) := by decide +kernel
theorem cd_X12_odds_258 : ylk m_X12_odds.2.2.2.2.1 258 = some (.ifCond .ne 7) := by decide +kernel
theorem cd_X12_odds_261 : ylk m_X12_odds.2.2.2.2.1 261 = some (.iconst (-1)) := by decide +kernel
theorem cd_X12_odds_262 : ylk m_X12_odds.2.2.2.2.1 262 = some (.goto 10) := by decide +kernel
theorem cd_X12_odds_265 : ylk m_X12_odds.2.2.2.2.1 265 = some (.iload 10) := by decide +kernel
theorem cd_X12_odds_267 : ylk m_X12_odds.2.2.2.2.1 267 = some (.iconst 1) := by decide +kernel
theorem cd_X12_odds_268 : ylk m_X12_odds.2.2.2.2.1 268 = some (.isub) := by decide +kernel
theorem cd_X12_odds_269 : ylk m_X12_odds.2.2.2.2.1 269 = some (.iload 5) := by decide +kernel
theorem cd_X12_odds_271 : ylk m_X12_odds.2.2.2.2.1 271 = some (.iand) := by decide +kernel
theorem cd_X12_odds_272 : ylk m_X12_odds.2.2.2.2.1 272 = some (.istore 10) := by decide +kernel
theorem cd_X12_odds_274 : ylk m_X12_odds.2.2.2.2.1 274 = some (.goto (-130)) := by decide +kernel
theorem cd_X12_odds_277 : ylk m_X12_odds.2.2.2.2.1 277 = some (.lload 8) := by decide +kernel
theorem cd_X12_odds_279 : ylk m_X12_odds.2.2.2.2.1 279 = some (.lload 6) := by decide +kernel
theorem cd_X12_odds_281 : ylk m_X12_odds.2.2.2.2.1 281 = some (.iload 4) := by decide +kernel
theorem cd_X12_odds_283 : ylk m_X12_odds.2.2.2.2.1 283 = some (.invokestatic 195) := by decide +kernel
theorem cd_X12_odds_286 : ylk m_X12_odds.2.2.2.2.1 286 = some (.lreturn) := by decide +kernel
noncomputable abbrev yb_X12_odds (C : yC) : ySt → Option (Option Value × yM) := yrn m_X12_odds C
theorem en_X12_odds (n : Nat) (A : yM) (v0 : Nat) (v1 : Int32) (v2 : Int32) (v3 : Int32) (v4 : Int32) : ycall (n + 1) 218 [.ref v0, .int v1, .int v2, .int v3, .int v4] A = (yi (yvt [(11, 144)] (ycall n) [.ref v0, .int v1] A)).bind (fun z1 => if z1.1 = 0 then (some (some (.long (1000000001 : Int64)), z1.2)) else ((yi ((ycall n) 138 [.int v2, .int (0 : Int32), .int (999 : Int32)] z1.2)).bind (fun z2 => if z2.1 = 0 then (some (some (.long (1000000001 : Int64)), z2.2)) else ((yi ((ycall n) 138 [.int v3, .int (2 : Int32), .int (20 : Int32)] z2.2)).bind (fun z3 => if z3.1 = 0 then (some (some (.long (1000000001 : Int64)), z3.2)) else ((yi ((ycall n) 138 [.int v4, .int (0 : Int32), .int (1 : Int32)] z3.2)).bind (fun z4 => if z4.1 = 0 then (some (some (.long (1000000001 : Int64)), z4.2)) else (yb_X12_odds (ycall n) (52, [some (.ref v0), some (.int v1), some (.int v2), some (.int v3), some (.int v4), some (.int (0 : Int32)), some (.long (1 : Int64)), none, some (.int (0 : Int32)), none, none, none, none, none, none], [], z4.2))))))))) := (ybig_blk 26 _).trans (z_aload_n cd_X12_odds_0 (j := 0) rfl rfl (p := 1) rfl (zgo rfl (z_iload_n cd_X12_odds_1 (j := 1) rfl rfl (p := 2) rfl (zgo rfl (z_cv1 cd_X12_odds_2 (zv (key := 342) (by decide)) cl_X12_c342 rfl rfl rfl rfl (p := 5) rfl (fun _ => (zgo rfl (z_if_eq cd_X12_odds_5 (p := 39) rfl (p2 := 8) rfl (zgo rfl (z_ldc2_w cd_X12_odds_39 ct_X12_199 (p := 42) rfl (zgo rfl (z_lret cd_X12_odds_42 rfl)))) (zgo rfl (z_iload_n cd_X12_odds_8 (j := 2) rfl rfl (p := 9) rfl (zgo rfl (z_iconst cd_X12_odds_9 ki_0 (p := 10) rfl (zgo rfl (z_sipush cd_X12_odds_10 ks_999 (p := 13) rfl (zgo rfl (z_cs1 cd_X12_odds_13 (zs (key := 139) (by decide)) cl_X12_c139 rfl rfl rfl rfl (p := 16) rfl (fun _ => (zgo rfl (z_if_eq cd_X12_odds_16 (p := 39) rfl (p2 := 19) rfl (zgo rfl (z_ldc2_w cd_X12_odds_39 ct_X12_199 (p := 42) rfl (zgo rfl (z_lret cd_X12_odds_42 rfl)))) (zgo rfl (z_iload_n cd_X12_odds_19 (j := 3) rfl rfl (p := 20) rfl (zgo rfl (z_iconst cd_X12_odds_20 ki_2 (p := 21) rfl (zgo rfl (z_bipush cd_X12_odds_21 kb_20 (p := 23) rfl (zgo rfl (z_cs1 cd_X12_odds_23 (zs (key := 139) (by decide)) cl_X12_c139 rfl rfl rfl rfl (p := 26) rfl (fun _ => (zgo rfl (z_if_eq cd_X12_odds_26 (p := 39) rfl (p2 := 29) rfl (zgo rfl (z_ldc2_w cd_X12_odds_39 ct_X12_199 (p := 42) rfl (zgo rfl (z_lret cd_X12_odds_42 rfl)))) (zgo rfl (z_iload cd_X12_odds_29 rfl (p := 31) rfl (zgo rfl (z_iconst cd_X12_odds_31 ki_0 (p := 32) rfl (zgo rfl (z_iconst cd_X12_odds_32 ki_1 (p := 33) rfl (zgo rfl (z_cs1 cd_X12_odds_33 (zs (key := 139) (by decide)) cl_X12_c139 rfl rfl rfl rfl (p := 36) rfl (fun _ => (zgo rfl (z_if_ne cd_X12_odds_36 (p := 43) rfl (p2 := 39) rfl (zgo rfl (z_ldc2_w cd_X12_odds_39 ct_X12_199 (p := 42) rfl (zgo rfl (z_lret cd_X12_odds_42 rfl)))) (zgo rfl (z_iconst cd_X12_odds_43 ki_0 (p := 44) rfl (zgo rfl (z_istore cd_X12_odds_44 rfl (p := 46) rfl (zgo rfl (z_lconst cd_X12_odds_46 kl_1 (p := 47) rfl (zgo rfl (z_lstore cd_X12_odds_47 rfl (p := 49) rfl (zgo rfl (z_iconst cd_X12_odds_49 ki_0 (p := 50) rfl (zgo rfl (z_istore cd_X12_odds_50 rfl (p := 52) rfl (zcut (p := 52) rfl rfl))))))))))))))))))))))))))))))))))))))))))))))))))))))
theorem bk_X12_odds_52 (C : yC) (A : yM) (v0 : Nat) (v1 : Int32) (v2 : Int32) (v3 : Int32) (v4 : Int32) (v5 : Int32) (v6 : Int64) (v8 : Int32) : yb_X12_odds C (52, [some (.ref v0), some (.int v1), some (.int v2), some (.int v3), some (.int v4), some (.int v5), some (.long v6), none, some (.int v8), none, none, none, none, none, none], [], A) = ygR A v0 11 0 (fun a1 => yrd A a1 (1 : Int32) (fun x2 => if x2 ≤ v8 then (yb_X12_odds C (114, [some (.ref v0), none, some (.int v2), some (.int v3), some (.int v4), some (.int v5), some (.long v6), none, some (.int (0 : Int32)), none, none, none, none, none, none], [], A)) else (ygR A v0 11 0 (fun a3 => (yi (C 143 [.int v8, .int (0 : Int32)] A)).bind (fun z4 => yrd z4.2 a3 z4.1 (fun x5 => if x5 = v1 then (ygR z4.2 v0 11 0 (fun a6 => (yi (C 143 [.int v8, .int (4 : Int32)] z4.2)).bind (fun z7 => yrd z7.2 a6 z7.1 (fun x8 => if x8 = 0 then (yb_X12_odds C (52, [some (.ref v0), some (.int v1), some (.int v2), some (.int v3), some (.int v4), some (.int (v5 ||| ((1 : Int32) <<< (v8 &&& 31)))), some (.long v6), none, some (.int (v8 + (1 : Int32))), none, none, none, none, none, none], [], z7.2)) else (yb_X12_odds C (52, [some (.ref v0), some (.int v1), some (.int v2), some (.int v3), some (.int v4), some (.int (v5 ||| (0 : Int32))), some (.long v6), none, some (.int (v8 + (1 : Int32))), none, none, none, none, none, none], [], z7.2)))))) else (yb_X12_odds C (52, [some (.ref v0), some (.int v1), some (.int v2), some (.int v3), some (.int v4), some (.int (v5 ||| (0 : Int32))), some (.long v6), none, some (.int (v8 + (1 : Int32))), none, none, none, none, none, none], [], z4.2)))))))) := (ybig_blk 31 _).trans (z_iload cd_X12_odds_52 rfl (p := 54) rfl (zgo rfl (z_aload_n cd_X12_odds_54 (j := 0) rfl rfl (p := 55) rfl (zgo rfl (z_getR cd_X12_odds_55 fd_X12_9 (p := 58) rfl (fun _ => (zgo rfl (z_iconst cd_X12_odds_58 ki_1 (p := 59) rfl (zgo rfl (z_iaload cd_X12_odds_59 (p := 60) rfl (fun _ => (zgo rfl (z_ic_ge cd_X12_odds_60 (p := 111) rfl (p2 := 63) rfl (zgo rfl (z_iconst cd_X12_odds_111 ki_0 (p := 112) rfl (zgo rfl (z_istore cd_X12_odds_112 rfl (p := 114) rfl (zcut (p := 114) rfl rfl))))) (zgo rfl (z_iload cd_X12_odds_63 rfl (p := 65) rfl (zgo rfl (z_aload_n cd_X12_odds_65 (j := 0) rfl rfl (p := 66) rfl (zgo rfl (z_getR cd_X12_odds_66 fd_X12_9 (p := 69) rfl (fun _ => (zgo rfl (z_iload cd_X12_odds_69 rfl (p := 71) rfl (zgo rfl (z_iconst cd_X12_odds_71 ki_0 (p := 72) rfl (zgo rfl (z_cs1 cd_X12_odds_72 (zs (key := 163) (by decide)) cl_X12_c163 rfl rfl rfl rfl (p := 75) rfl (fun _ => (zgo rfl (z_iaload cd_X12_odds_75 (p := 76) rfl (fun _ => (zgo rfl (z_iload_n cd_X12_odds_76 (j := 1) rfl rfl (p := 77) rfl (zgo rfl (z_ic_ne cd_X12_odds_77 (p := 101) rfl (p2 := 80) rfl (zgo rfl (z_aload_n cd_X12_odds_80 (j := 0) rfl rfl (p := 81) rfl (zgo rfl (z_getR cd_X12_odds_81 fd_X12_9 (p := 84) rfl (fun _ => (zgo rfl (z_iload cd_X12_odds_84 rfl (p := 86) rfl (zgo rfl (z_iconst cd_X12_odds_86 ki_4 (p := 87) rfl (zgo rfl (z_cs1 cd_X12_odds_87 (zs (key := 163) (by decide)) cl_X12_c163 rfl rfl rfl rfl (p := 90) rfl (fun _ => (zgo rfl (z_iaload cd_X12_odds_90 (p := 91) rfl (fun _ => (zgo rfl (z_if_ne cd_X12_odds_91 (p := 101) rfl (p2 := 94) rfl (zgo rfl (z_iconst cd_X12_odds_94 ki_1 (p := 95) rfl (zgo rfl (z_iload cd_X12_odds_95 rfl (p := 97) rfl (zgo rfl (z_ishl cd_X12_odds_97 (p := 98) rfl (zgo rfl (z_goto cd_X12_odds_98 (p := 102) rfl (zgo rfl (z_ior cd_X12_odds_102 (p := 103) rfl (zgo rfl (z_istore cd_X12_odds_103 rfl (p := 105) rfl (zgo rfl (z_iinc cd_X12_odds_105 ki_1 rfl rfl (p := 108) rfl (zgo rfl (z_goto cd_X12_odds_108 (p := 52) rfl (zcut (p := 52) rfl rfl))))))))))))))))) (zgo rfl (z_iconst cd_X12_odds_101 ki_0 (p := 102) rfl (zgo rfl (z_ior cd_X12_odds_102 (p := 103) rfl (zgo rfl (z_istore cd_X12_odds_103 rfl (p := 105) rfl (zgo rfl (z_iinc cd_X12_odds_105 ki_1 rfl rfl (p := 108) rfl (zgo rfl (z_goto cd_X12_odds_108 (p := 52) rfl (zcut (p := 52) rfl rfl)))))))))))))))))))))))))))) (zgo rfl (z_iconst cd_X12_odds_101 ki_0 (p := 102) rfl (zgo rfl (z_ior cd_X12_odds_102 (p := 103) rfl (zgo rfl (z_istore cd_X12_odds_103 rfl (p := 105) rfl (zgo rfl (z_iinc cd_X12_odds_105 ki_1 rfl rfl (p := 108) rfl (zgo rfl (z_goto cd_X12_odds_108 (p := 52) rfl (zcut (p := 52) rfl rfl)))))))))))))))))))))))))))))))))))))))))))))
theorem bk_X12_odds_114 (C : yC) (A : yM) (v0 : Nat) (v2 : Int32) (v3 : Int32) (v4 : Int32) (v5 : Int32) (v6 : Int64) (v8 : Int32) : yb_X12_odds C (114, [some (.ref v0), none, some (.int v2), some (.int v3), some (.int v4), some (.int v5), some (.long v6), none, some (.int v8), none, none, none, none, none, none], [], A) = (yi (C 148 [.int v5] A)).bind (fun z1 => if z1.1 ≤ v8 then (yb_X12_odds C (144, [some (.ref v0), none, some (.int v2), some (.int v3), some (.int v4), some (.int v5), some (.long v6), none, some (.long (0 : Int64)), none, some (.int v5), none, none, none, none], [], z1.2)) else (yb_X12_odds C (114, [some (.ref v0), none, some (.int v2), some (.int v3), some (.int v4), some (.int v5), some (.long (v6 * v3.toInt64)), none, some (.int (v8 + (1 : Int32))), none, none, none, none, none, none], [], z1.2))) := (ybig_blk 12 _).trans (z_iload cd_X12_odds_114 rfl (p := 116) rfl (zgo rfl (z_iload cd_X12_odds_116 rfl (p := 118) rfl (zgo rfl (z_cs1 cd_X12_odds_118 (zs (key := 745) (by decide)) cl_X12_c745 rfl rfl rfl rfl (p := 121) rfl (fun _ => (zgo rfl (z_ic_ge cd_X12_odds_121 (p := 137) rfl (p2 := 124) rfl (zgo rfl (z_lconst cd_X12_odds_137 kl_0 (p := 138) rfl (zgo rfl (z_lstore cd_X12_odds_138 rfl (p := 140) rfl (zgo rfl (z_iload cd_X12_odds_140 rfl (p := 142) rfl (zgo rfl (z_istore cd_X12_odds_142 rfl (p := 144) rfl (zcut (p := 144) rfl rfl))))))))) (zgo rfl (z_lload cd_X12_odds_124 rfl (p := 126) rfl (zgo rfl (z_iload_n cd_X12_odds_126 (j := 3) rfl rfl (p := 127) rfl (zgo rfl (z_i2l cd_X12_odds_127 (p := 128) rfl (zgo rfl (z_lmul cd_X12_odds_128 (p := 129) rfl (zgo rfl (z_lstore cd_X12_odds_129 rfl (p := 131) rfl (zgo rfl (z_iinc cd_X12_odds_131 ki_1 rfl rfl (p := 134) rfl (zgo rfl (z_goto cd_X12_odds_134 (p := 114) rfl (zcut (p := 114) rfl rfl)))))))))))))))))))))))
theorem bk_X12_odds_144 (C : yC) (A : yM) (v0 : Nat) (v2 : Int32) (v3 : Int32) (v4 : Int32) (v5 : Int32) (v6 : Int64) (v8 : Int64) (v10 : Int32) : yb_X12_odds C (144, [some (.ref v0), none, some (.int v2), some (.int v3), some (.int v4), some (.int v5), some (.long v6), none, some (.long v8), none, some (.int v10), none, none, none, none], [], A) = if v10 < 0 then ((yl (C 194 [.long v8, .long v6, .int v4] A)).bind (fun z1 => some (some (.long z1.1), z1.2))) else (yb_X12_odds C (158, [some (.ref v0), none, some (.int v2), some (.int v3), some (.int v4), some (.int v5), some (.long v6), none, some (.long v8), none, some (.int v10), some (.long (1 : Int64)), none, some (.int (0 : Int32)), some (.int (0 : Int32))], [], A)) := (ybig_blk 9 _).trans (z_iload cd_X12_odds_144 rfl (p := 146) rfl (zgo rfl (z_if_lt cd_X12_odds_146 (p := 277) rfl (p2 := 149) rfl (zgo rfl (z_lload cd_X12_odds_277 rfl (p := 279) rfl (zgo rfl (z_lload cd_X12_odds_279 rfl (p := 281) rfl (zgo rfl (z_iload cd_X12_odds_281 rfl (p := 283) rfl (zgo rfl (z_cs2 cd_X12_odds_283 (zs (key := 586) (by decide)) cl_X12_c586 rfl rfl rfl rfl (p := 286) rfl (fun _ => (zgo rfl (z_lret cd_X12_odds_286 rfl))))))))))) (zgo rfl (z_lconst cd_X12_odds_149 kl_1 (p := 150) rfl (zgo rfl (z_lstore cd_X12_odds_150 rfl (p := 152) rfl (zgo rfl (z_iconst cd_X12_odds_152 ki_0 (p := 153) rfl (zgo rfl (z_istore cd_X12_odds_153 rfl (p := 155) rfl (zgo rfl (z_iconst cd_X12_odds_155 ki_0 (p := 156) rfl (zgo rfl (z_istore cd_X12_odds_156 rfl (p := 158) rfl (zcut (p := 158) rfl rfl))))))))))))))))
theorem bk_X12_odds_158 (C : yC) (A : yM) (v0 : Nat) (v2 : Int32) (v3 : Int32) (v4 : Int32) (v5 : Int32) (v6 : Int64) (v8 : Int64) (v10 : Int32) (v11 : Int64) (v13 : Int32) (v14 : Int32) : yb_X12_odds C (158, [some (.ref v0), none, some (.int v2), some (.int v3), some (.int v4), some (.int v5), some (.long v6), none, some (.long v8), none, some (.int v10), some (.long v11), none, some (.int v13), some (.int v14)], [], A) = ygR A v0 11 0 (fun a1 => yrd A a1 (1 : Int32) (fun x2 => if x2 ≤ v14 then (if v13 < v2 then (if v10 = 0 then (yb_X12_odds C (144, [some (.ref v0), none, some (.int v2), some (.int v3), some (.int v4), some (.int v5), some (.long v6), none, some (.long (v8 + (0 : Int64))), none, some (.int (-1 : Int32)), none, none, none, none], [], A)) else (yb_X12_odds C (144, [some (.ref v0), none, some (.int v2), some (.int v3), some (.int v4), some (.int v5), some (.long v6), none, some (.long (v8 + (0 : Int64))), none, some (.int ((v10 - (1 : Int32)) &&& v5)), none, none, none, none], [], A))) else (if v10 = 0 then (yb_X12_odds C (144, [some (.ref v0), none, some (.int v2), some (.int v3), some (.int v4), some (.int v5), some (.long v6), none, some (.long (v8 + v11)), none, some (.int (-1 : Int32)), none, none, none, none], [], A)) else (yb_X12_odds C (144, [some (.ref v0), none, some (.int v2), some (.int v3), some (.int v4), some (.int v5), some (.long v6), none, some (.long (v8 + v11)), none, some (.int ((v10 - (1 : Int32)) &&& v5)), none, none, none, none], [], A)))) else ((yi (C 147 [.int v5, .int v14] A)).bind (fun z3 => if z3.1 = 0 then (yb_X12_odds C (158, [some (.ref v0), none, some (.int v2), some (.int v3), some (.int v4), some (.int v5), some (.long v6), none, some (.long v8), none, some (.int v10), some (.long v11), none, some (.int v13), some (.int (v14 + (1 : Int32)))], [], z3.2)) else ((yi (C 147 [.int v10, .int v14] z3.2)).bind (fun z4 => if z4.1 = 0 then ((yi (C 147 [.int v10, .int v14] z4.2)).bind (fun z5 => if z5.1 = 0 then (ygR z5.2 v0 11 0 (fun a6 => (yi (C 153 [.ref a6, .int v14] z5.2)).bind (fun z7 => yb_X12_odds C (158, [some (.ref v0), none, some (.int v2), some (.int v3), some (.int v4), some (.int v5), some (.long v6), none, some (.long v8), none, some (.int v10), some (.long (v11 * ((v3 - (1 : Int32)).toInt64))), none, some (.int (v13 + z7.1)), some (.int (v14 + (1 : Int32)))], [], z7.2)))) else (yb_X12_odds C (158, [some (.ref v0), none, some (.int v2), some (.int v3), some (.int v4), some (.int v5), some (.long v6), none, some (.long v8), none, some (.int v10), some (.long (v11 * ((v3 - (1 : Int32)).toInt64))), none, some (.int (v13 + (0 : Int32))), some (.int (v14 + (1 : Int32)))], [], z5.2)))) else ((yi (C 147 [.int v10, .int v14] z4.2)).bind (fun z8 => if z8.1 = 0 then (ygR z8.2 v0 11 0 (fun a9 => (yi (C 153 [.ref a9, .int v14] z8.2)).bind (fun z10 => yb_X12_odds C (158, [some (.ref v0), none, some (.int v2), some (.int v3), some (.int v4), some (.int v5), some (.long v6), none, some (.long v8), none, some (.int v10), some (.long (v11 * (1 : Int64))), none, some (.int (v13 + z10.1)), some (.int (v14 + (1 : Int32)))], [], z10.2)))) else (yb_X12_odds C (158, [some (.ref v0), none, some (.int v2), some (.int v3), some (.int v4), some (.int v5), some (.long v6), none, some (.long v8), none, some (.int v10), some (.long (v11 * (1 : Int64))), none, some (.int (v13 + (0 : Int32))), some (.int (v14 + (1 : Int32)))], [], z8.2)))))))))) := (ybig_blk 35 _).trans (z_iload cd_X12_odds_158 rfl (p := 160) rfl (zgo rfl (z_aload_n cd_X12_odds_160 (j := 0) rfl rfl (p := 161) rfl (zgo rfl (z_getR cd_X12_odds_161 fd_X12_9 (p := 164) rfl (fun _ => (zgo rfl (z_iconst cd_X12_odds_164 ki_1 (p := 165) rfl (zgo rfl (z_iaload cd_X12_odds_165 (p := 166) rfl (fun _ => (zgo rfl (z_ic_ge cd_X12_odds_166 (p := 239) rfl (p2 := 169) rfl (zgo rfl (z_lload cd_X12_odds_239 rfl (p := 241) rfl (zgo rfl (z_iload cd_X12_odds_241 rfl (p := 243) rfl (zgo rfl (z_iload_n cd_X12_odds_243 (j := 2) rfl rfl (p := 244) rfl (zgo rfl (z_ic_lt cd_X12_odds_244 (p := 252) rfl (p2 := 247) rfl (zgo rfl (z_lconst cd_X12_odds_252 kl_0 (p := 253) rfl (zgo rfl (z_ladd cd_X12_odds_253 (p := 254) rfl (zgo rfl (z_lstore cd_X12_odds_254 rfl (p := 256) rfl (zgo rfl (z_iload cd_X12_odds_256 rfl (p := 258) rfl (zgo rfl (z_if_ne cd_X12_odds_258 (p := 265) rfl (p2 := 261) rfl (zgo rfl (z_iconst cd_X12_odds_261 ki_m1 (p := 262) rfl (zgo rfl (z_goto cd_X12_odds_262 (p := 272) rfl (zgo rfl (z_istore cd_X12_odds_272 rfl (p := 274) rfl (zgo rfl (z_goto cd_X12_odds_274 (p := 144) rfl (zcut (p := 144) rfl rfl))))))))) (zgo rfl (z_iload cd_X12_odds_265 rfl (p := 267) rfl (zgo rfl (z_iconst cd_X12_odds_267 ki_1 (p := 268) rfl (zgo rfl (z_isub cd_X12_odds_268 (p := 269) rfl (zgo rfl (z_iload cd_X12_odds_269 rfl (p := 271) rfl (zgo rfl (z_iand cd_X12_odds_271 (p := 272) rfl (zgo rfl (z_istore cd_X12_odds_272 rfl (p := 274) rfl (zgo rfl (z_goto cd_X12_odds_274 (p := 144) rfl (zcut (p := 144) rfl rfl))))))))))))))))))))))))) (zgo rfl (z_lload cd_X12_odds_247 rfl (p := 249) rfl (zgo rfl (z_goto cd_X12_odds_249 (p := 253) rfl (zgo rfl (z_ladd cd_X12_odds_253 (p := 254) rfl (zgo rfl (z_lstore cd_X12_odds_254 rfl (p := 256) rfl (zgo rfl (z_iload cd_X12_odds_256 rfl (p := 258) rfl (zgo rfl (z_if_ne cd_X12_odds_258 (p := 265) rfl (p2 := 261) rfl (zgo rfl (z_iconst cd_X12_odds_261 ki_m1 (p := 262) rfl (zgo rfl (z_goto cd_X12_odds_262 (p := 272) rfl (zgo rfl (z_istore cd_X12_odds_272 rfl (p := 274) rfl (zgo rfl (z_goto cd_X12_odds_274 (p := 144) rfl (zcut (p := 144) rfl rfl))))))))) (zgo rfl (z_iload cd_X12_odds_265 rfl (p := 267) rfl (zgo rfl (z_iconst cd_X12_odds_267 ki_1 (p := 268) rfl (zgo rfl (z_isub cd_X12_odds_268 (p := 269) rfl (zgo rfl (z_iload cd_X12_odds_269 rfl (p := 271) rfl (zgo rfl (z_iand cd_X12_odds_271 (p := 272) rfl (zgo rfl (z_istore cd_X12_odds_272 rfl (p := 274) rfl (zgo rfl (z_goto cd_X12_odds_274 (p := 144) rfl (zcut (p := 144) rfl rfl))))))))))))))))))))))))))))))))))) (zgo rfl (z_iload cd_X12_odds_169 rfl (p := 171) rfl (zgo rfl (z_iload cd_X12_odds_171 rfl (p := 173) rfl (zgo rfl (z_cs1 cd_X12_odds_173 (zs (key := 676) (by decide)) cl_X12_c676 rfl rfl rfl rfl (p := 176) rfl (fun _ => (zgo rfl (z_if_ne cd_X12_odds_176 (p := 182) rfl (p2 := 179) rfl (zgo rfl (z_goto cd_X12_odds_179 (p := 233) rfl (zgo rfl (z_iinc cd_X12_odds_233 ki_1 rfl rfl (p := 236) rfl (zgo rfl (z_goto cd_X12_odds_236 (p := 158) rfl (zcut (p := 158) rfl rfl))))))) (zgo rfl (z_lload cd_X12_odds_182 rfl (p := 184) rfl (zgo rfl (z_iload cd_X12_odds_184 rfl (p := 186) rfl (zgo rfl (z_iload cd_X12_odds_186 rfl (p := 188) rfl (zgo rfl (z_cs1 cd_X12_odds_188 (zs (key := 676) (by decide)) cl_X12_c676 rfl rfl rfl rfl (p := 191) rfl (fun _ => (zgo rfl (z_if_eq cd_X12_odds_191 (p := 198) rfl (p2 := 194) rfl (zgo rfl (z_iload_n cd_X12_odds_198 (j := 3) rfl rfl (p := 199) rfl (zgo rfl (z_iconst cd_X12_odds_199 ki_1 (p := 200) rfl (zgo rfl (z_isub cd_X12_odds_200 (p := 201) rfl (zgo rfl (z_i2l cd_X12_odds_201 (p := 202) rfl (zgo rfl (z_lmul cd_X12_odds_202 (p := 203) rfl (zgo rfl (z_lstore cd_X12_odds_203 rfl (p := 205) rfl (zgo rfl (z_iload cd_X12_odds_205 rfl (p := 207) rfl (zgo rfl (z_iload cd_X12_odds_207 rfl (p := 209) rfl (zgo rfl (z_iload cd_X12_odds_209 rfl (p := 211) rfl (zgo rfl (z_cs1 cd_X12_odds_211 (zs (key := 676) (by decide)) cl_X12_c676 rfl rfl rfl rfl (p := 214) rfl (fun _ => (zgo rfl (z_if_eq cd_X12_odds_214 (p := 221) rfl (p2 := 217) rfl (zgo rfl (z_aload_n cd_X12_odds_221 (j := 0) rfl rfl (p := 222) rfl (zgo rfl (z_getR cd_X12_odds_222 fd_X12_9 (p := 225) rfl (fun _ => (zgo rfl (z_iload cd_X12_odds_225 rfl (p := 227) rfl (zgo rfl (z_cs1 cd_X12_odds_227 (zs (key := 223) (by decide)) cl_X12_c223 rfl rfl rfl rfl (p := 230) rfl (fun _ => (zgo rfl (z_iadd cd_X12_odds_230 (p := 231) rfl (zgo rfl (z_istore cd_X12_odds_231 rfl (p := 233) rfl (zgo rfl (z_iinc cd_X12_odds_233 ki_1 rfl rfl (p := 236) rfl (zgo rfl (z_goto cd_X12_odds_236 (p := 158) rfl (zcut (p := 158) rfl rfl))))))))))))))))))) (zgo rfl (z_iconst cd_X12_odds_217 ki_0 (p := 218) rfl (zgo rfl (z_goto cd_X12_odds_218 (p := 230) rfl (zgo rfl (z_iadd cd_X12_odds_230 (p := 231) rfl (zgo rfl (z_istore cd_X12_odds_231 rfl (p := 233) rfl (zgo rfl (z_iinc cd_X12_odds_233 ki_1 rfl rfl (p := 236) rfl (zgo rfl (z_goto cd_X12_odds_236 (p := 158) rfl (zcut (p := 158) rfl rfl)))))))))))))))))))))))))))))))))))) (zgo rfl (z_lconst cd_X12_odds_194 kl_1 (p := 195) rfl (zgo rfl (z_goto cd_X12_odds_195 (p := 202) rfl (zgo rfl (z_lmul cd_X12_odds_202 (p := 203) rfl (zgo rfl (z_lstore cd_X12_odds_203 rfl (p := 205) rfl (zgo rfl (z_iload cd_X12_odds_205 rfl (p := 207) rfl (zgo rfl (z_iload cd_X12_odds_207 rfl (p := 209) rfl (zgo rfl (z_iload cd_X12_odds_209 rfl (p := 211) rfl (zgo rfl (z_cs1 cd_X12_odds_211 (zs (key := 676) (by decide)) cl_X12_c676 rfl rfl rfl rfl (p := 214) rfl (fun _ => (zgo rfl (z_if_eq cd_X12_odds_214 (p := 221) rfl (p2 := 217) rfl (zgo rfl (z_aload_n cd_X12_odds_221 (j := 0) rfl rfl (p := 222) rfl (zgo rfl (z_getR cd_X12_odds_222 fd_X12_9 (p := 225) rfl (fun _ => (zgo rfl (z_iload cd_X12_odds_225 rfl (p := 227) rfl (zgo rfl (z_cs1 cd_X12_odds_227 (zs (key := 223) (by decide)) cl_X12_c223 rfl rfl rfl rfl (p := 230) rfl (fun _ => (zgo rfl (z_iadd cd_X12_odds_230 (p := 231) rfl (zgo rfl (z_istore cd_X12_odds_231 rfl (p := 233) rfl (zgo rfl (z_iinc cd_X12_odds_233 ki_1 rfl rfl (p := 236) rfl (zgo rfl (z_goto cd_X12_odds_236 (p := 158) rfl (zcut (p := 158) rfl rfl))))))))))))))))))) (zgo rfl (z_iconst cd_X12_odds_217 ki_0 (p := 218) rfl (zgo rfl (z_goto cd_X12_odds_218 (p := 230) rfl (zgo rfl (z_iadd cd_X12_odds_230 (p := 231) rfl (zgo rfl (z_istore cd_X12_odds_231 rfl (p := 233) rfl (zgo rfl (z_iinc cd_X12_odds_233 ki_1 rfl rfl (p := 236) rfl (zgo rfl (z_goto cd_X12_odds_236 (p := 158) rfl (zcut (p := 158) rfl rfl)))))))))))))))))))))))))))))))))))))))))))))))))))))))))))))))))
theorem cd_X12_allSize_0 : ylk m_X12_allSize.2.2.2.2.1 0 = some (.iconst 0) := by decide +kernel
theorem cd_X12_allSize_1 : ylk m_X12_allSize.2.2.2.2.1 1 = some (.istore_n 1) := by decide +kernel
theorem cd_X12_allSize_2 : ylk m_X12_allSize.2.2.2.2.1 2 = some (.iconst 0) := by decide +kernel
theorem cd_X12_allSize_3 : ylk m_X12_allSize.2.2.2.2.1 3 = some (.istore_n 2) := by decide +kernel
theorem cd_X12_allSize_4 : ylk m_X12_allSize.2.2.2.2.1 4 = some (.iload_n 2) := by decide +kernel
theorem cd_X12_allSize_5 : ylk m_X12_allSize.2.2.2.2.1 5 = some (.aload_n 0) := by decide +kernel
theorem cd_X12_allSize_6 : ylk m_X12_allSize.2.2.2.2.1 6 = some (.getfield 9) := by decide +kernel
theorem cd_X12_allSize_9 : ylk m_X12_allSize.2.2.2.2.1 9 = some (.iconst 1) := by decide +kernel
theorem cd_X12_allSize_10 : ylk m_X12_allSize.2.2.2.2.1 10 = some (.iaload) := by decide +kernel
theorem cd_X12_allSize_11 : ylk m_X12_allSize.2.2.2.2.1 11 = some (.if_icmp .ge 22) := by decide +kernel
theorem cd_X12_allSize_14 : ylk m_X12_allSize.2.2.2.2.1 14 = some (.iload_n 1) := by decide +kernel
theorem cd_X12_allSize_15 : ylk m_X12_allSize.2.2.2.2.1 15 = some (.aload_n 0) := by decide +kernel
theorem cd_X12_allSize_16 : ylk m_X12_allSize.2.2.2.2.1 16 = some (.getfield 9) := by decide +kernel
theorem cd_X12_allSize_19 : ylk m_X12_allSize.2.2.2.2.1 19 = some (.iload_n 2) := by decide +kernel
theorem cd_X12_allSize_20 : ylk m_X12_allSize.2.2.2.2.1 20 = some (.iconst 2) := by decide +kernel
theorem cd_X12_allSize_21 : ylk m_X12_allSize.2.2.2.2.1 21 = some (.invokestatic 54) := by decide +kernel
theorem cd_X12_allSize_24 : ylk m_X12_allSize.2.2.2.2.1 24 = some (.iaload) := by decide +kernel
theorem cd_X12_allSize_25 : ylk m_X12_allSize.2.2.2.2.1 25 = some (.iadd) := by decide +kernel
theorem cd_X12_allSize_26 : ylk m_X12_allSize.2.2.2.2.1 26 = some (.istore_n 1) := by decide +kernel
theorem cd_X12_allSize_27 : ylk m_X12_allSize.2.2.2.2.1 27 = some (.iinc 2 1) := by decide +kernel
theorem cd_X12_allSize_30 : ylk m_X12_allSize.2.2.2.2.1 30 = some (.goto (-26)) := by decide +kernel
theorem cd_X12_allSize_33 : ylk m_X12_allSize.2.2.2.2.1 33 = some (.iload_n 1) := by decide +kernel
theorem cd_X12_allSize_34 : ylk m_X12_allSize.2.2.2.2.1 34 = some (.ireturn) := by decide +kernel
noncomputable abbrev yb_X12_allSize (C : yC) : ySt → Option (Option Value × yM) := yrn m_X12_allSize C
theorem en_X12_allSize (n : Nat) (A : yM) (v0 : Nat) : ycall (n + 1) 219 [.ref v0] A = yb_X12_allSize (ycall n) (4, [some (.ref v0), some (.int (0 : Int32)), some (.int (0 : Int32))], [], A) := (ybig_blk 5 _).trans (z_iconst cd_X12_allSize_0 ki_0 (p := 1) rfl (zgo rfl (z_istore_n cd_X12_allSize_1 (j := 1) rfl rfl (p := 2) rfl (zgo rfl (z_iconst cd_X12_allSize_2 ki_0 (p := 3) rfl (zgo rfl (z_istore_n cd_X12_allSize_3 (j := 2) rfl rfl (p := 4) rfl (zcut (p := 4) rfl rfl))))))))
theorem bk_X12_allSize_4 (C : yC) (A : yM) (v0 : Nat) (v1 : Int32) (v2 : Int32) : yb_X12_allSize C (4, [some (.ref v0), some (.int v1), some (.int v2)], [], A) = ygR A v0 11 0 (fun a1 => yrd A a1 (1 : Int32) (fun x2 => if x2 ≤ v2 then (some (some (.int v1), A)) else (ygR A v0 11 0 (fun a3 => (yi (C 143 [.int v2, .int (2 : Int32)] A)).bind (fun z4 => yrd z4.2 a3 z4.1 (fun x5 => yb_X12_allSize C (4, [some (.ref v0), some (.int (v1 + x5)), some (.int (v2 + (1 : Int32)))], [], z4.2))))))) := (ybig_blk 18 _).trans (z_iload_n cd_X12_allSize_4 (j := 2) rfl rfl (p := 5) rfl (zgo rfl (z_aload_n cd_X12_allSize_5 (j := 0) rfl rfl (p := 6) rfl (zgo rfl (z_getR cd_X12_allSize_6 fd_X12_9 (p := 9) rfl (fun _ => (zgo rfl (z_iconst cd_X12_allSize_9 ki_1 (p := 10) rfl (zgo rfl (z_iaload cd_X12_allSize_10 (p := 11) rfl (fun _ => (zgo rfl (z_ic_ge cd_X12_allSize_11 (p := 33) rfl (p2 := 14) rfl (zgo rfl (z_iload_n cd_X12_allSize_33 (j := 1) rfl rfl (p := 34) rfl (zgo rfl (z_iret cd_X12_allSize_34 rfl)))) (zgo rfl (z_iload_n cd_X12_allSize_14 (j := 1) rfl rfl (p := 15) rfl (zgo rfl (z_aload_n cd_X12_allSize_15 (j := 0) rfl rfl (p := 16) rfl (zgo rfl (z_getR cd_X12_allSize_16 fd_X12_9 (p := 19) rfl (fun _ => (zgo rfl (z_iload_n cd_X12_allSize_19 (j := 2) rfl rfl (p := 20) rfl (zgo rfl (z_iconst cd_X12_allSize_20 ki_2 (p := 21) rfl (zgo rfl (z_cs1 cd_X12_allSize_21 (zs (key := 163) (by decide)) cl_X12_c163 rfl rfl rfl rfl (p := 24) rfl (fun _ => (zgo rfl (z_iaload cd_X12_allSize_24 (p := 25) rfl (fun _ => (zgo rfl (z_iadd cd_X12_allSize_25 (p := 26) rfl (zgo rfl (z_istore_n cd_X12_allSize_26 (j := 1) rfl rfl (p := 27) rfl (zgo rfl (z_iinc cd_X12_allSize_27 ki_1 rfl rfl (p := 30) rfl (zgo rfl (z_goto cd_X12_allSize_30 (p := 4) rfl (zcut (p := 4) rfl rfl)))))))))))))))))))))))))))))))))))))))
theorem cd_X12_mean_0 : ylk m_X12_mean.2.2.2.2.1 0 = some (.iload_n 1) := by decide +kernel
theorem cd_X12_mean_1 : ylk m_X12_mean.2.2.2.2.1 1 = some (.iconst 0) := by decide +kernel
theorem cd_X12_mean_2 : ylk m_X12_mean.2.2.2.2.1 2 = some (.iconst 1) := by decide +kernel
theorem cd_X12_mean_3 : ylk m_X12_mean.2.2.2.2.1 3 = some (.invokestatic 46) := by decide +kernel
theorem cd_X12_mean_6 : ylk m_X12_mean.2.2.2.2.1 6 = some (.ifCond .eq 22) := by decide +kernel
theorem cd_X12_mean_9 : ylk m_X12_mean.2.2.2.2.1 9 = some (.aload_n 0) := by decide +kernel
theorem cd_X12_mean_10 : ylk m_X12_mean.2.2.2.2.1 10 = some (.invokevirtual 251) := by decide +kernel
theorem cd_X12_mean_13 : ylk m_X12_mean.2.2.2.2.1 13 = some (.i2l) := by decide +kernel
theorem cd_X12_mean_14 : ylk m_X12_mean.2.2.2.2.1 14 = some (.aload_n 0) := by decide +kernel
theorem cd_X12_mean_15 : ylk m_X12_mean.2.2.2.2.1 15 = some (.getfield 9) := by decide +kernel
theorem cd_X12_mean_18 : ylk m_X12_mean.2.2.2.2.1 18 = some (.iconst 1) := by decide +kernel
theorem cd_X12_mean_19 : ylk m_X12_mean.2.2.2.2.1 19 = some (.iaload) := by decide +kernel
theorem cd_X12_mean_20 : ylk m_X12_mean.2.2.2.2.1 20 = some (.i2l) := by decide +kernel
theorem cd_X12_mean_21 : ylk m_X12_mean.2.2.2.2.1 21 = some (.iload_n 1) := by decide +kernel
theorem cd_X12_mean_22 : ylk m_X12_mean.2.2.2.2.1 22 = some (.invokestatic 195) := by decide +kernel
theorem cd_X12_mean_25 : ylk m_X12_mean.2.2.2.2.1 25 = some (.goto 6) := by decide +kernel
theorem cd_X12_mean_28 : ylk m_X12_mean.2.2.2.2.1 28 = some (.ldc2_w 199) := by decide +kernel
theorem cd_X12_mean_31 : ylk m_X12_mean.2.2.2.2.1 31 = some (.lreturn) := by decide +kernel
noncomputable abbrev yb_X12_mean (C : yC) : ySt → Option (Option Value × yM) := yrn m_X12_mean C
theorem en_X12_mean (n : Nat) (A : yM) (v0 : Nat) (v1 : Int32) : ycall (n + 1) 220 [.ref v0, .int v1] A = (yi ((ycall n) 138 [.int v1, .int (0 : Int32), .int (1 : Int32)] A)).bind (fun z1 => if z1.1 = 0 then (some (some (.long (1000000001 : Int64)), z1.2)) else ((yi (yvt [(11, 219)] (ycall n) [.ref v0] z1.2)).bind (fun z2 => ygR z2.2 v0 11 0 (fun a3 => yrd z2.2 a3 (1 : Int32) (fun x4 => (yl ((ycall n) 194 [.long z2.1.toInt64, .long x4.toInt64, .int v1] z2.2)).bind (fun z5 => some (some (.long z5.1), z5.2))))))) := (ybig_blk 18 _).trans (z_iload_n cd_X12_mean_0 (j := 1) rfl rfl (p := 1) rfl (zgo rfl (z_iconst cd_X12_mean_1 ki_0 (p := 2) rfl (zgo rfl (z_iconst cd_X12_mean_2 ki_1 (p := 3) rfl (zgo rfl (z_cs1 cd_X12_mean_3 (zs (key := 139) (by decide)) cl_X12_c139 rfl rfl rfl rfl (p := 6) rfl (fun _ => (zgo rfl (z_if_eq cd_X12_mean_6 (p := 28) rfl (p2 := 9) rfl (zgo rfl (z_ldc2_w cd_X12_mean_28 ct_X12_199 (p := 31) rfl (zgo rfl (z_lret cd_X12_mean_31 rfl)))) (zgo rfl (z_aload_n cd_X12_mean_9 (j := 0) rfl rfl (p := 10) rfl (zgo rfl (z_cv1 cd_X12_mean_10 (zv (key := 753) (by decide)) cl_X12_c753 rfl rfl rfl rfl (p := 13) rfl (fun _ => (zgo rfl (z_i2l cd_X12_mean_13 (p := 14) rfl (zgo rfl (z_aload_n cd_X12_mean_14 (j := 0) rfl rfl (p := 15) rfl (zgo rfl (z_getR cd_X12_mean_15 fd_X12_9 (p := 18) rfl (fun _ => (zgo rfl (z_iconst cd_X12_mean_18 ki_1 (p := 19) rfl (zgo rfl (z_iaload cd_X12_mean_19 (p := 20) rfl (fun _ => (zgo rfl (z_i2l cd_X12_mean_20 (p := 21) rfl (zgo rfl (z_iload_n cd_X12_mean_21 (j := 1) rfl rfl (p := 22) rfl (zgo rfl (z_cs2 cd_X12_mean_22 (zs (key := 586) (by decide)) cl_X12_c586 rfl rfl rfl rfl (p := 25) rfl (fun _ => (zgo rfl (z_goto cd_X12_mean_25 (p := 31) rfl (zgo rfl (z_lret cd_X12_mean_31 rfl))))))))))))))))))))))))))))))))))))))
theorem cd_X12_forged_0 : ylk m_X12_forged.2.2.2.2.1 0 = some (.aload_n 0) := by decide +kernel
theorem cd_X12_forged_1 : ylk m_X12_forged.2.2.2.2.1 1 = some (.iload_n 1) := by decide +kernel
theorem cd_X12_forged_2 : ylk m_X12_forged.2.2.2.2.1 2 = some (.iconst (-1)) := by decide +kernel
theorem cd_X12_forged_3 : ylk m_X12_forged.2.2.2.2.1 3 = some (.invokevirtual 136) := by decide +kernel
theorem cd_X12_forged_6 : ylk m_X12_forged.2.2.2.2.1 6 = some (.istore_n 2) := by decide +kernel
theorem cd_X12_forged_7 : ylk m_X12_forged.2.2.2.2.1 7 = some (.iload_n 2) := by decide +kernel
theorem cd_X12_forged_8 : ylk m_X12_forged.2.2.2.2.1 8 = some (.ifCond .eq 5) := by decide +kernel
theorem cd_X12_forged_11 : ylk m_X12_forged.2.2.2.2.1 11 = some (.iload_n 2) := by decide +kernel
theorem cd_X12_forged_12 : ylk m_X12_forged.2.2.2.2.1 12 = some (.ireturn) := by decide +kernel
theorem cd_X12_forged_13 : ylk m_X12_forged.2.2.2.2.1 13 = some (.iconst 0) := by decide +kernel
theorem cd_X12_forged_14 : ylk m_X12_forged.2.2.2.2.1 14 = some (.istore_n 3) := by decide +kernel
theorem cd_X12_forged_15 : ylk m_X12_forged.2.2.2.2.1 15 = some (.iload_n 3) := by decide +kernel
theorem cd_X12_forged_16 : ylk m_X12_forged.2.2.2.2.1 16 = some (.aload_n 0) := by decide +kernel
theorem cd_X12_forged_17 : ylk m_X12_forged.2.2.2.2.1 17 = some (.getfield 40) := by decide +kernel
theorem cd_X12_forged_20 : ylk m_X12_forged.2.2.2.2.1 20 = some (.iload_n 1) := by decide +kernel
theorem cd_X12_forged_21 : ylk m_X12_forged.2.2.2.2.1 21 = some (.iaload) := by decide +kernel
theorem cd_X12_forged_22 : ylk m_X12_forged.2.2.2.2.1 22 = some (.if_icmp .ge 43) := by decide +kernel
theorem cd_X12_forged_25 : ylk m_X12_forged.2.2.2.2.1 25 = some (.aload_n 0) := by decide +kernel
theorem cd_X12_forged_26 : ylk m_X12_forged.2.2.2.2.1 26 = some (.iload_n 3) := by decide +kernel
theorem cd_X12_forged_27 : ylk m_X12_forged.2.2.2.2.1 27 = some (.invokevirtual 118) := by decide +kernel
theorem cd_X12_forged_30 : ylk m_X12_forged.2.2.2.2.1 30 = some (.ifCond .eq 27) := by decide +kernel
theorem cd_X12_forged_33 : ylk m_X12_forged.2.2.2.2.1 33 = some (.aload_n 0) := by decide +kernel
theorem cd_X12_forged_34 : ylk m_X12_forged.2.2.2.2.1 34 = some (.getfield 43) := by decide +kernel
theorem cd_X12_forged_37 : ylk m_X12_forged.2.2.2.2.1 37 = some (.bipush 100) := by decide +kernel
theorem cd_X12_forged_39 : ylk m_X12_forged.2.2.2.2.1 39 = some (.iload_n 1) := by decide +kernel
theorem cd_X12_forged_40 : ylk m_X12_forged.2.2.2.2.1 40 = some (.imul) := by decide +kernel
theorem cd_X12_forged_41 : ylk m_X12_forged.2.2.2.2.1 41 = some (.iload_n 3) := by decide +kernel
theorem cd_X12_forged_42 : ylk m_X12_forged.2.2.2.2.1 42 = some (.iadd) := by decide +kernel
theorem cd_X12_forged_43 : ylk m_X12_forged.2.2.2.2.1 43 = some (.iaload) := by decide +kernel
theorem cd_X12_forged_44 : ylk m_X12_forged.2.2.2.2.1 44 = some (.aload_n 0) := by decide +kernel
theorem cd_X12_forged_45 : ylk m_X12_forged.2.2.2.2.1 45 = some (.getfield 9) := by decide +kernel
theorem cd_X12_forged_48 : ylk m_X12_forged.2.2.2.2.1 48 = some (.iload_n 3) := by decide +kernel
theorem cd_X12_forged_49 : ylk m_X12_forged.2.2.2.2.1 49 = some (.iconst 2) := by decide +kernel
theorem cd_X12_forged_50 : ylk m_X12_forged.2.2.2.2.1 50 = some (.invokestatic 54) := by decide +kernel
theorem cd_X12_forged_53 : ylk m_X12_forged.2.2.2.2.1 53 = some (.iaload) := by decide +kernel
theorem cd_X12_forged_54 : ylk m_X12_forged.2.2.2.2.1 54 = some (.if_icmp .eq 5) := by decide +kernel
theorem cd_X12_forged_57 : ylk m_X12_forged.2.2.2.2.1 57 = some (.iload_n 3) := by decide +kernel
theorem cd_X12_forged_58 : ylk m_X12_forged.2.2.2.2.1 58 = some (.ireturn) := by decide +kernel
theorem cd_X12_forged_59 : ylk m_X12_forged.2.2.2.2.1 59 = some (.iinc 3 1) := by decide +kernel
theorem cd_X12_forged_62 : ylk m_X12_forged.2.2.2.2.1 62 = some (.goto (-47)) := by decide +kernel
theorem cd_X12_forged_65 : ylk m_X12_forged.2.2.2.2.1 65 = some (.bipush (-4)) := by decide +kernel
theorem cd_X12_forged_67 : ylk m_X12_forged.2.2.2.2.1 67 = some (.ireturn) := by decide +kernel
noncomputable abbrev yb_X12_forged (C : yC) : ySt → Option (Option Value × yM) := yrn m_X12_forged C
theorem en_X12_forged (n : Nat) (A : yM) (v0 : Nat) (v1 : Int32) : ycall (n + 1) 221 [.ref v0, .int v1] A = (yi (yvt [(11, 230)] (ycall n) [.ref v0, .int v1, .int (-1 : Int32)] A)).bind (fun z1 => if z1.1 = 0 then (yb_X12_forged (ycall n) (15, [some (.ref v0), some (.int v1), none, some (.int (0 : Int32))], [], z1.2)) else (some (some (.int z1.1), z1.2))) := (ybig_blk 10 _).trans (z_aload_n cd_X12_forged_0 (j := 0) rfl rfl (p := 1) rfl (zgo rfl (z_iload_n cd_X12_forged_1 (j := 1) rfl rfl (p := 2) rfl (zgo rfl (z_iconst cd_X12_forged_2 ki_m1 (p := 3) rfl (zgo rfl (z_cv1 cd_X12_forged_3 (zv (key := 408) (by decide)) cl_X12_c408 rfl rfl rfl rfl (p := 6) rfl (fun _ => (zgo rfl (z_istore_n cd_X12_forged_6 (j := 2) rfl rfl (p := 7) rfl (zgo rfl (z_iload_n cd_X12_forged_7 (j := 2) rfl rfl (p := 8) rfl (zgo rfl (z_if_eq cd_X12_forged_8 (p := 13) rfl (p2 := 11) rfl (zgo rfl (z_iconst cd_X12_forged_13 ki_0 (p := 14) rfl (zgo rfl (z_istore_n cd_X12_forged_14 (j := 3) rfl rfl (p := 15) rfl (zcut (p := 15) rfl rfl))))) (zgo rfl (z_iload_n cd_X12_forged_11 (j := 2) rfl rfl (p := 12) rfl (zgo rfl (z_iret cd_X12_forged_12 rfl))))))))))))))))))
theorem bk_X12_forged_15 (C : yC) (A : yM) (v0 : Nat) (v1 : Int32) (v3 : Int32) : yb_X12_forged C (15, [some (.ref v0), some (.int v1), none, some (.int v3)], [], A) = ygR A v0 11 15 (fun a1 => yrd A a1 v1 (fun x2 => if x2 ≤ v3 then (some (some (.int (-4 : Int32)), A)) else ((yi (yvt [(11, 145)] C [.ref v0, .int v3] A)).bind (fun z3 => if z3.1 = 0 then (some (some (.int v3), z3.2)) else (ygR z3.2 v0 11 16 (fun a4 => yrd z3.2 a4 (((100 : Int32) * v1) + v3) (fun x5 => ygR z3.2 v0 11 0 (fun a6 => (yi (C 143 [.int v3, .int (2 : Int32)] z3.2)).bind (fun z7 => yrd z7.2 a6 z7.1 (fun x8 => if x5 = x8 then (yb_X12_forged C (15, [some (.ref v0), some (.int v1), none, some (.int (v3 + (1 : Int32)))], [], z7.2)) else (some (some (.int v3), z7.2)))))))))))) := (ybig_blk 28 _).trans (z_iload_n cd_X12_forged_15 (j := 3) rfl rfl (p := 16) rfl (zgo rfl (z_aload_n cd_X12_forged_16 (j := 0) rfl rfl (p := 17) rfl (zgo rfl (z_getR cd_X12_forged_17 fd_X12_40 (p := 20) rfl (fun _ => (zgo rfl (z_iload_n cd_X12_forged_20 (j := 1) rfl rfl (p := 21) rfl (zgo rfl (z_iaload cd_X12_forged_21 (p := 22) rfl (fun _ => (zgo rfl (z_ic_ge cd_X12_forged_22 (p := 65) rfl (p2 := 25) rfl (zgo rfl (z_bipush cd_X12_forged_65 kb_m4 (p := 67) rfl (zgo rfl (z_iret cd_X12_forged_67 rfl)))) (zgo rfl (z_aload_n cd_X12_forged_25 (j := 0) rfl rfl (p := 26) rfl (zgo rfl (z_iload_n cd_X12_forged_26 (j := 3) rfl rfl (p := 27) rfl (zgo rfl (z_cv1 cd_X12_forged_27 (zv (key := 354) (by decide)) cl_X12_c354 rfl rfl rfl rfl (p := 30) rfl (fun _ => (zgo rfl (z_if_eq cd_X12_forged_30 (p := 57) rfl (p2 := 33) rfl (zgo rfl (z_iload_n cd_X12_forged_57 (j := 3) rfl rfl (p := 58) rfl (zgo rfl (z_iret cd_X12_forged_58 rfl)))) (zgo rfl (z_aload_n cd_X12_forged_33 (j := 0) rfl rfl (p := 34) rfl (zgo rfl (z_getR cd_X12_forged_34 fd_X12_43 (p := 37) rfl (fun _ => (zgo rfl (z_bipush cd_X12_forged_37 kb_100 (p := 39) rfl (zgo rfl (z_iload_n cd_X12_forged_39 (j := 1) rfl rfl (p := 40) rfl (zgo rfl (z_imul cd_X12_forged_40 (p := 41) rfl (zgo rfl (z_iload_n cd_X12_forged_41 (j := 3) rfl rfl (p := 42) rfl (zgo rfl (z_iadd cd_X12_forged_42 (p := 43) rfl (zgo rfl (z_iaload cd_X12_forged_43 (p := 44) rfl (fun _ => (zgo rfl (z_aload_n cd_X12_forged_44 (j := 0) rfl rfl (p := 45) rfl (zgo rfl (z_getR cd_X12_forged_45 fd_X12_9 (p := 48) rfl (fun _ => (zgo rfl (z_iload_n cd_X12_forged_48 (j := 3) rfl rfl (p := 49) rfl (zgo rfl (z_iconst cd_X12_forged_49 ki_2 (p := 50) rfl (zgo rfl (z_cs1 cd_X12_forged_50 (zs (key := 163) (by decide)) cl_X12_c163 rfl rfl rfl rfl (p := 53) rfl (fun _ => (zgo rfl (z_iaload cd_X12_forged_53 (p := 54) rfl (fun _ => (zgo rfl (z_ic_eq cd_X12_forged_54 (p := 59) rfl (p2 := 57) rfl (zgo rfl (z_iinc cd_X12_forged_59 ki_1 rfl rfl (p := 62) rfl (zgo rfl (z_goto cd_X12_forged_62 (p := 15) rfl (zcut (p := 15) rfl rfl))))) (zgo rfl (z_iload_n cd_X12_forged_57 (j := 3) rfl rfl (p := 58) rfl (zgo rfl (z_iret cd_X12_forged_58 rfl)))))))))))))))))))))))))))))))))))))))))))))))))))))))))))))
theorem cd_X12_judge_0 : ylk m_X12_judge.2.2.2.2.1 0 = some (.aload_n 0) := by decide +kernel
theorem cd_X12_judge_1 : ylk m_X12_judge.2.2.2.2.1 1 = some (.iload_n 1) := by decide +kernel
theorem cd_X12_judge_2 : ylk m_X12_judge.2.2.2.2.1 2 = some (.iconst (-1)) := by decide +kernel
theorem cd_X12_judge_3 : ylk m_X12_judge.2.2.2.2.1 3 = some (.invokevirtual 136) := by decide +kernel
theorem cd_X12_judge_6 : ylk m_X12_judge.2.2.2.2.1 6 = some (.istore_n 2) := by decide +kernel
theorem cd_X12_judge_7 : ylk m_X12_judge.2.2.2.2.1 7 = some (.iload_n 2) := by decide +kernel
theorem cd_X12_judge_8 : ylk m_X12_judge.2.2.2.2.1 8 = some (.ifCond .eq 5) := by decide +kernel
theorem cd_X12_judge_11 : ylk m_X12_judge.2.2.2.2.1 11 = some (.iload_n 2) := by decide +kernel
theorem cd_X12_judge_12 : ylk m_X12_judge.2.2.2.2.1 12 = some (.ireturn) := by decide +kernel
theorem cd_X12_judge_13 : ylk m_X12_judge.2.2.2.2.1 13 = some (.aload_n 0) := by decide +kernel
theorem cd_X12_judge_14 : ylk m_X12_judge.2.2.2.2.1 14 = some (.getfield 9) := by decide +kernel
theorem cd_X12_judge_17 : ylk m_X12_judge.2.2.2.2.1 17 = some (.aload_n 0) := by decide +kernel
theorem cd_X12_judge_18 : ylk m_X12_judge.2.2.2.2.1 18 = some (.getfield 13) := by decide +kernel
theorem cd_X12_judge_21 : ylk m_X12_judge.2.2.2.2.1 21 = some (.invokestatic 143) := by decide +kernel
theorem cd_X12_judge_24 : ylk m_X12_judge.2.2.2.2.1 24 = some (.iconst 0) := by decide +kernel
theorem cd_X12_judge_25 : ylk m_X12_judge.2.2.2.2.1 25 = some (.istore_n 3) := by decide +kernel
theorem cd_X12_judge_26 : ylk m_X12_judge.2.2.2.2.1 26 = some (.iload_n 3) := by decide +kernel
theorem cd_X12_judge_27 : ylk m_X12_judge.2.2.2.2.1 27 = some (.aload_n 0) := by decide +kernel
theorem cd_X12_judge_28 : ylk m_X12_judge.2.2.2.2.1 28 = some (.getfield 40) := by decide +kernel
theorem cd_X12_judge_31 : ylk m_X12_judge.2.2.2.2.1 31 = some (.iload_n 1) := by decide +kernel
theorem cd_X12_judge_32 : ylk m_X12_judge.2.2.2.2.1 32 = some (.iaload) := by decide +kernel
theorem cd_X12_judge_33 : ylk m_X12_judge.2.2.2.2.1 33 = some (.if_icmp .ge 57) := by decide +kernel
theorem cd_X12_judge_36 : ylk m_X12_judge.2.2.2.2.1 36 = some (.aload_n 0) := by decide +kernel
theorem cd_X12_judge_37 : ylk m_X12_judge.2.2.2.2.1 37 = some (.getfield 43) := by decide +kernel
theorem cd_X12_judge_40 : ylk m_X12_judge.2.2.2.2.1 40 = some (.bipush 100) := by decide +kernel
theorem cd_X12_judge_42 : ylk m_X12_judge.2.2.2.2.1 42 = some (.iload_n 1) := by decide +kernel
theorem cd_X12_judge_43 : ylk m_X12_judge.2.2.2.2.1 43 = some (.imul) := by decide +kernel
theorem cd_X12_judge_44 : ylk m_X12_judge.2.2.2.2.1 44 = some (.iload_n 3) := by decide +kernel
theorem cd_X12_judge_45 : ylk m_X12_judge.2.2.2.2.1 45 = some (.iadd) := by decide +kernel
theorem cd_X12_judge_46 : ylk m_X12_judge.2.2.2.2.1 46 = some (.iaload) := by decide +kernel
theorem cd_X12_judge_47 : ylk m_X12_judge.2.2.2.2.1 47 = some (.istore 4) := by decide +kernel
theorem cd_X12_judge_49 : ylk m_X12_judge.2.2.2.2.1 49 = some (.iload 4) := by decide +kernel
theorem cd_X12_judge_51 : ylk m_X12_judge.2.2.2.2.1 51 = some (.aload_n 0) := by decide +kernel
theorem cd_X12_judge_52 : ylk m_X12_judge.2.2.2.2.1 52 = some (.getfield 37) := by decide +kernel
theorem cd_X12_judge_55 : ylk m_X12_judge.2.2.2.2.1 55 = some (.iload_n 1) := by decide +kernel
theorem cd_X12_judge_56 : ylk m_X12_judge.2.2.2.2.1 56 = some (.iaload) := by decide +kernel
theorem cd_X12_judge_57 : ylk m_X12_judge.2.2.2.2.1 57 = some (.invokestatic 238) := by decide +kernel
theorem cd_X12_judge_60 : ylk m_X12_judge.2.2.2.2.1 60 = some (.if_icmp .eq 17) := by decide +kernel
theorem cd_X12_judge_63 : ylk m_X12_judge.2.2.2.2.1 63 = some (.iload 4) := by decide +kernel
theorem cd_X12_judge_65 : ylk m_X12_judge.2.2.2.2.1 65 = some (.aload_n 0) := by decide +kernel
theorem cd_X12_judge_66 : ylk m_X12_judge.2.2.2.2.1 66 = some (.getfield 13) := by decide +kernel
theorem cd_X12_judge_69 : ylk m_X12_judge.2.2.2.2.1 69 = some (.invokestatic 160) := by decide +kernel
theorem cd_X12_judge_72 : ylk m_X12_judge.2.2.2.2.1 72 = some (.if_icmp .eq 5) := by decide +kernel
theorem cd_X12_judge_75 : ylk m_X12_judge.2.2.2.2.1 75 = some (.iload_n 3) := by decide +kernel
theorem cd_X12_judge_76 : ylk m_X12_judge.2.2.2.2.1 76 = some (.ireturn) := by decide +kernel
theorem cd_X12_judge_77 : ylk m_X12_judge.2.2.2.2.1 77 = some (.aload_n 0) := by decide +kernel
theorem cd_X12_judge_78 : ylk m_X12_judge.2.2.2.2.1 78 = some (.getfield 13) := by decide +kernel
theorem cd_X12_judge_81 : ylk m_X12_judge.2.2.2.2.1 81 = some (.invokestatic 88) := by decide +kernel
theorem cd_X12_judge_84 : ylk m_X12_judge.2.2.2.2.1 84 = some (.iinc 3 1) := by decide +kernel
theorem cd_X12_judge_87 : ylk m_X12_judge.2.2.2.2.1 87 = some (.goto (-61)) := by decide +kernel
theorem cd_X12_judge_90 : ylk m_X12_judge.2.2.2.2.1 90 = some (.bipush (-4)) := by decide +kernel
theorem cd_X12_judge_92 : ylk m_X12_judge.2.2.2.2.1 92 = some (.ireturn) := by decide +kernel
noncomputable abbrev yb_X12_judge (C : yC) : ySt → Option (Option Value × yM) := yrn m_X12_judge C
theorem en_X12_judge (n : Nat) (A : yM) (v0 : Nat) (v1 : Int32) : ycall (n + 1) 222 [.ref v0, .int v1] A = (yi (yvt [(11, 230)] (ycall n) [.ref v0, .int v1, .int (-1 : Int32)] A)).bind (fun z1 => if z1.1 = 0 then (ygR z1.2 v0 11 0 (fun a2 => ygR z1.2 v0 11 1 (fun a3 => (yv ((ycall n) 141 [.ref a2, .ref a3] z1.2)).bind (fun A4 => yb_X12_judge (ycall n) (26, [some (.ref v0), some (.int v1), none, some (.int (0 : Int32)), none], [], A4))))) else (some (some (.int z1.1), z1.2))) := (ybig_blk 15 _).trans (z_aload_n cd_X12_judge_0 (j := 0) rfl rfl (p := 1) rfl (zgo rfl (z_iload_n cd_X12_judge_1 (j := 1) rfl rfl (p := 2) rfl (zgo rfl (z_iconst cd_X12_judge_2 ki_m1 (p := 3) rfl (zgo rfl (z_cv1 cd_X12_judge_3 (zv (key := 408) (by decide)) cl_X12_c408 rfl rfl rfl rfl (p := 6) rfl (fun _ => (zgo rfl (z_istore_n cd_X12_judge_6 (j := 2) rfl rfl (p := 7) rfl (zgo rfl (z_iload_n cd_X12_judge_7 (j := 2) rfl rfl (p := 8) rfl (zgo rfl (z_if_eq cd_X12_judge_8 (p := 13) rfl (p2 := 11) rfl (zgo rfl (z_aload_n cd_X12_judge_13 (j := 0) rfl rfl (p := 14) rfl (zgo rfl (z_getR cd_X12_judge_14 fd_X12_9 (p := 17) rfl (fun _ => (zgo rfl (z_aload_n cd_X12_judge_17 (j := 0) rfl rfl (p := 18) rfl (zgo rfl (z_getR cd_X12_judge_18 fd_X12_13 (p := 21) rfl (fun _ => (zgo rfl (z_cs0 cd_X12_judge_21 (zs (key := 430) (by decide)) cl_X12_c430 rfl rfl rfl rfl (p := 24) rfl (fun _ => (zgo rfl (z_iconst cd_X12_judge_24 ki_0 (p := 25) rfl (zgo rfl (z_istore_n cd_X12_judge_25 (j := 3) rfl rfl (p := 26) rfl (zcut (p := 26) rfl rfl)))))))))))))))))) (zgo rfl (z_iload_n cd_X12_judge_11 (j := 2) rfl rfl (p := 12) rfl (zgo rfl (z_iret cd_X12_judge_12 rfl))))))))))))))))))
theorem bk_X12_judge_26 (C : yC) (A : yM) (v0 : Nat) (v1 : Int32) (v3 : Int32) : yb_X12_judge C (26, [some (.ref v0), some (.int v1), none, some (.int v3), none], [], A) = ygR A v0 11 15 (fun a1 => yrd A a1 v1 (fun x2 => if x2 ≤ v3 then (some (some (.int (-4 : Int32)), A)) else (ygR A v0 11 16 (fun a3 => yrd A a3 (((100 : Int32) * v1) + v3) (fun x4 => ygR A v0 11 14 (fun a5 => yrd A a5 v1 (fun x6 => (yi (C 213 [.int x6] A)).bind (fun z7 => if x4 = z7.1 then (ygR z7.2 v0 11 1 (fun a8 => (yv (C 158 [.ref a8] z7.2)).bind (fun A9 => yb_X12_judge C (26, [some (.ref v0), some (.int v1), none, some (.int (v3 + (1 : Int32))), none], [], A9)))) else (ygR z7.2 v0 11 1 (fun a10 => (yi (C 155 [.ref a10] z7.2)).bind (fun z11 => if x4 = z11.1 then (ygR z11.2 v0 11 1 (fun a12 => (yv (C 158 [.ref a12] z11.2)).bind (fun A13 => yb_X12_judge C (26, [some (.ref v0), some (.int v1), none, some (.int (v3 + (1 : Int32))), none], [], A13)))) else (some (some (.int v3), z11.2))))))))))))) := (ybig_blk 33 _).trans (z_iload_n cd_X12_judge_26 (j := 3) rfl rfl (p := 27) rfl (zgo rfl (z_aload_n cd_X12_judge_27 (j := 0) rfl rfl (p := 28) rfl (zgo rfl (z_getR cd_X12_judge_28 fd_X12_40 (p := 31) rfl (fun _ => (zgo rfl (z_iload_n cd_X12_judge_31 (j := 1) rfl rfl (p := 32) rfl (zgo rfl (z_iaload cd_X12_judge_32 (p := 33) rfl (fun _ => (zgo rfl (z_ic_ge cd_X12_judge_33 (p := 90) rfl (p2 := 36) rfl (zgo rfl (z_bipush cd_X12_judge_90 kb_m4 (p := 92) rfl (zgo rfl (z_iret cd_X12_judge_92 rfl)))) (zgo rfl (z_aload_n cd_X12_judge_36 (j := 0) rfl rfl (p := 37) rfl (zgo rfl (z_getR cd_X12_judge_37 fd_X12_43 (p := 40) rfl (fun _ => (zgo rfl (z_bipush cd_X12_judge_40 kb_100 (p := 42) rfl (zgo rfl (z_iload_n cd_X12_judge_42 (j := 1) rfl rfl (p := 43) rfl (zgo rfl (z_imul cd_X12_judge_43 (p := 44) rfl (zgo rfl (z_iload_n cd_X12_judge_44 (j := 3) rfl rfl (p := 45) rfl (zgo rfl (z_iadd cd_X12_judge_45 (p := 46) rfl (zgo rfl (z_iaload cd_X12_judge_46 (p := 47) rfl (fun _ => (zgo rfl (z_istore cd_X12_judge_47 rfl (p := 49) rfl (zgo rfl (z_iload cd_X12_judge_49 rfl (p := 51) rfl (zgo rfl (z_aload_n cd_X12_judge_51 (j := 0) rfl rfl (p := 52) rfl (zgo rfl (z_getR cd_X12_judge_52 fd_X12_37 (p := 55) rfl (fun _ => (zgo rfl (z_iload_n cd_X12_judge_55 (j := 1) rfl rfl (p := 56) rfl (zgo rfl (z_iaload cd_X12_judge_56 (p := 57) rfl (fun _ => (zgo rfl (z_cs1 cd_X12_judge_57 (zs (key := 715) (by decide)) cl_X12_c715 rfl rfl rfl rfl (p := 60) rfl (fun _ => (zgo rfl (z_ic_eq cd_X12_judge_60 (p := 77) rfl (p2 := 63) rfl (zgo rfl (z_aload_n cd_X12_judge_77 (j := 0) rfl rfl (p := 78) rfl (zgo rfl (z_getR cd_X12_judge_78 fd_X12_13 (p := 81) rfl (fun _ => (zgo rfl (z_cs0 cd_X12_judge_81 (zs (key := 265) (by decide)) cl_X12_c265 rfl rfl rfl rfl (p := 84) rfl (fun _ => (zgo rfl (z_iinc cd_X12_judge_84 ki_1 rfl rfl (p := 87) rfl (zgo rfl (z_goto cd_X12_judge_87 (p := 26) rfl (zcut (p := 26) rfl rfl))))))))))))) (zgo rfl (z_iload cd_X12_judge_63 rfl (p := 65) rfl (zgo rfl (z_aload_n cd_X12_judge_65 (j := 0) rfl rfl (p := 66) rfl (zgo rfl (z_getR cd_X12_judge_66 fd_X12_13 (p := 69) rfl (fun _ => (zgo rfl (z_cs1 cd_X12_judge_69 (zs (key := 481) (by decide)) cl_X12_c481 rfl rfl rfl rfl (p := 72) rfl (fun _ => (zgo rfl (z_ic_eq cd_X12_judge_72 (p := 77) rfl (p2 := 75) rfl (zgo rfl (z_aload_n cd_X12_judge_77 (j := 0) rfl rfl (p := 78) rfl (zgo rfl (z_getR cd_X12_judge_78 fd_X12_13 (p := 81) rfl (fun _ => (zgo rfl (z_cs0 cd_X12_judge_81 (zs (key := 265) (by decide)) cl_X12_c265 rfl rfl rfl rfl (p := 84) rfl (fun _ => (zgo rfl (z_iinc cd_X12_judge_84 ki_1 rfl rfl (p := 87) rfl (zgo rfl (z_goto cd_X12_judge_87 (p := 26) rfl (zcut (p := 26) rfl rfl))))))))))))) (zgo rfl (z_iload_n cd_X12_judge_75 (j := 3) rfl rfl (p := 76) rfl (zgo rfl (z_iret cd_X12_judge_76 rfl))))))))))))))))))))))))))))))))))))))))))))))))))))))))))))))))))
theorem cd_X12_drawn_0 : ylk m_X12_drawn.2.2.2.2.1 0 = some (.aload_n 0) := by decide +kernel
theorem cd_X12_drawn_1 : ylk m_X12_drawn.2.2.2.2.1 1 = some (.aload_n 0) := by decide +kernel
theorem cd_X12_drawn_2 : ylk m_X12_drawn.2.2.2.2.1 2 = some (.getfield 254) := by decide +kernel
theorem cd_X12_drawn_5 : ylk m_X12_drawn.2.2.2.2.1 5 = some (.ldc_w 257) := by decide +kernel
theorem cd_X12_drawn_8 : ylk m_X12_drawn.2.2.2.2.1 8 = some (.imul) := by decide +kernel
theorem cd_X12_drawn_9 : ylk m_X12_drawn.2.2.2.2.1 9 = some (.sipush 12345) := by decide +kernel
theorem cd_X12_drawn_12 : ylk m_X12_drawn.2.2.2.2.1 12 = some (.iadd) := by decide +kernel
theorem cd_X12_drawn_13 : ylk m_X12_drawn.2.2.2.2.1 13 = some (.putfield 254) := by decide +kernel
theorem cd_X12_drawn_16 : ylk m_X12_drawn.2.2.2.2.1 16 = some (.aload_n 0) := by decide +kernel
theorem cd_X12_drawn_17 : ylk m_X12_drawn.2.2.2.2.1 17 = some (.getfield 254) := by decide +kernel
theorem cd_X12_drawn_20 : ylk m_X12_drawn.2.2.2.2.1 20 = some (.ldc_w 258) := by decide +kernel
theorem cd_X12_drawn_23 : ylk m_X12_drawn.2.2.2.2.1 23 = some (.iand) := by decide +kernel
theorem cd_X12_drawn_24 : ylk m_X12_drawn.2.2.2.2.1 24 = some (.ldc_w 259) := by decide +kernel
theorem cd_X12_drawn_27 : ylk m_X12_drawn.2.2.2.2.1 27 = some (.idiv) := by decide +kernel
theorem cd_X12_drawn_28 : ylk m_X12_drawn.2.2.2.2.1 28 = some (.iload_n 1) := by decide +kernel
theorem cd_X12_drawn_29 : ylk m_X12_drawn.2.2.2.2.1 29 = some (.irem) := by decide +kernel
theorem cd_X12_drawn_30 : ylk m_X12_drawn.2.2.2.2.1 30 = some (.ireturn) := by decide +kernel
noncomputable abbrev yb_X12_drawn (C : yC) : ySt → Option (Option Value × yM) := yrn m_X12_drawn C
theorem en_X12_drawn (n : Nat) (A : yM) (v0 : Nat) (v1 : Int32) : ycall (n + 1) 223 [.ref v0, .int v1] A = ygI A v0 11 10 (fun x1 => ypI A v0 11 10 ((x1 * (1103515245 : Int32)) + (12345 : Int32)) (fun A2 => ygI A2 v0 11 10 (fun x3 => if (65536 : Int32) = 0 then none else (if v1 = 0 then none else (some (some (.int (((x3 &&& (2147483647 : Int32)) / (65536 : Int32)) - ((x3 &&& (2147483647 : Int32)) / (65536 : Int32)) / v1 * v1)), A2)))))) := (ybig_blk 18 _).trans (z_aload_n cd_X12_drawn_0 (j := 0) rfl rfl (p := 1) rfl (zgo rfl (z_aload_n cd_X12_drawn_1 (j := 0) rfl rfl (p := 2) rfl (zgo rfl (z_getI cd_X12_drawn_2 fd_X12_254 (p := 5) rfl (fun _ => (zgo rfl (z_ldc_w cd_X12_drawn_5 ct_X12_257 (p := 8) rfl (zgo rfl (z_imul cd_X12_drawn_8 (p := 9) rfl (zgo rfl (z_sipush cd_X12_drawn_9 ks_12345 (p := 12) rfl (zgo rfl (z_iadd cd_X12_drawn_12 (p := 13) rfl (zgo rfl (z_putI cd_X12_drawn_13 fd_X12_254 (p := 16) rfl (fun _ => (zgo rfl (z_aload_n cd_X12_drawn_16 (j := 0) rfl rfl (p := 17) rfl (zgo rfl (z_getI cd_X12_drawn_17 fd_X12_254 (p := 20) rfl (fun _ => (zgo rfl (z_ldc_w cd_X12_drawn_20 ct_X12_258 (p := 23) rfl (zgo rfl (z_iand cd_X12_drawn_23 (p := 24) rfl (zgo rfl (z_ldc_w cd_X12_drawn_24 ct_X12_259 (p := 27) rfl (zgo rfl (z_idiv cd_X12_drawn_27 (p := 28) rfl (zgo rfl (z_iload_n cd_X12_drawn_28 (j := 1) rfl rfl (p := 29) rfl (zgo rfl (z_irem cd_X12_drawn_29 (p := 30) rfl (zgo rfl (z_iret cd_X12_drawn_30 rfl))))))))))))))))))))))))))))))))))))
theorem cd_X12_terms_0 : ylk m_X12_terms.2.2.2.2.1 0 = some (.iload_n 1) := by decide +kernel
theorem cd_X12_terms_1 : ylk m_X12_terms.2.2.2.2.1 1 = some (.iconst 1) := by decide +kernel
theorem cd_X12_terms_2 : ylk m_X12_terms.2.2.2.2.1 2 = some (.bipush 20) := by decide +kernel
theorem cd_X12_terms_4 : ylk m_X12_terms.2.2.2.2.1 4 = some (.invokestatic 46) := by decide +kernel
theorem cd_X12_terms_7 : ylk m_X12_terms.2.2.2.2.1 7 = some (.ifCond .eq 12) := by decide +kernel
theorem cd_X12_terms_10 : ylk m_X12_terms.2.2.2.2.1 10 = some (.iload_n 3) := by decide +kernel
theorem cd_X12_terms_11 : ylk m_X12_terms.2.2.2.2.1 11 = some (.iconst 0) := by decide +kernel
theorem cd_X12_terms_12 : ylk m_X12_terms.2.2.2.2.1 12 = some (.iconst 1) := by decide +kernel
theorem cd_X12_terms_13 : ylk m_X12_terms.2.2.2.2.1 13 = some (.invokestatic 46) := by decide +kernel
theorem cd_X12_terms_16 : ylk m_X12_terms.2.2.2.2.1 16 = some (.ifCond .ne 5) := by decide +kernel
theorem cd_X12_terms_19 : ylk m_X12_terms.2.2.2.2.1 19 = some (.iconst (-1)) := by decide +kernel
theorem cd_X12_terms_20 : ylk m_X12_terms.2.2.2.2.1 20 = some (.ireturn) := by decide +kernel
theorem cd_X12_terms_21 : ylk m_X12_terms.2.2.2.2.1 21 = some (.aload_n 0) := by decide +kernel
theorem cd_X12_terms_22 : ylk m_X12_terms.2.2.2.2.1 22 = some (.iload_n 2) := by decide +kernel
theorem cd_X12_terms_23 : ylk m_X12_terms.2.2.2.2.1 23 = some (.putfield 254) := by decide +kernel
theorem cd_X12_terms_26 : ylk m_X12_terms.2.2.2.2.1 26 = some (.iconst 0) := by decide +kernel
theorem cd_X12_terms_27 : ylk m_X12_terms.2.2.2.2.1 27 = some (.istore 4) := by decide +kernel
theorem cd_X12_terms_29 : ylk m_X12_terms.2.2.2.2.1 29 = some (.iconst 0) := by decide +kernel
theorem cd_X12_terms_30 : ylk m_X12_terms.2.2.2.2.1 30 = some (.istore 5) := by decide +kernel
theorem cd_X12_terms_32 : ylk m_X12_terms.2.2.2.2.1 32 = some (.iload 5) := by decide +kernel
theorem cd_X12_terms_34 : ylk m_X12_terms.2.2.2.2.1 34 = some (.iload_n 1) := by decide +kernel
theorem cd_X12_terms_35 : ylk m_X12_terms.2.2.2.2.1 35 = some (.if_icmp .ge 105) := by decide +kernel
theorem cd_X12_terms_38 : ylk m_X12_terms.2.2.2.2.1 38 = some (.aload_n 0) := by decide +kernel
theorem cd_X12_terms_39 : ylk m_X12_terms.2.2.2.2.1 39 = some (.getfield 9) := by decide +kernel
theorem cd_X12_terms_42 : ylk m_X12_terms.2.2.2.2.1 42 = some (.aload_n 0) := by decide +kernel
theorem cd_X12_terms_43 : ylk m_X12_terms.2.2.2.2.1 43 = some (.getfield 13) := by decide +kernel
theorem cd_X12_terms_46 : ylk m_X12_terms.2.2.2.2.1 46 = some (.invokestatic 143) := by decide +kernel
theorem cd_X12_terms_49 : ylk m_X12_terms.2.2.2.2.1 49 = some (.iconst 0) := by decide +kernel
theorem cd_X12_terms_50 : ylk m_X12_terms.2.2.2.2.1 50 = some (.istore 6) := by decide +kernel
theorem cd_X12_terms_52 : ylk m_X12_terms.2.2.2.2.1 52 = some (.iload 6) := by decide +kernel
theorem cd_X12_terms_54 : ylk m_X12_terms.2.2.2.2.1 54 = some (.aload_n 0) := by decide +kernel
theorem cd_X12_terms_55 : ylk m_X12_terms.2.2.2.2.1 55 = some (.getfield 9) := by decide +kernel
theorem cd_X12_terms_58 : ylk m_X12_terms.2.2.2.2.1 58 = some (.iconst 1) := by decide +kernel
theorem cd_X12_terms_59 : ylk m_X12_terms.2.2.2.2.1 59 = some (.iaload) := by decide +kernel
theorem cd_X12_terms_60 : ylk m_X12_terms.2.2.2.2.1 60 = some (.if_icmp .ge 26) := by decide +kernel
theorem cd_X12_terms_63 : ylk m_X12_terms.2.2.2.2.1 63 = some (.aload_n 0) := by decide +kernel
theorem cd_X12_terms_64 : ylk m_X12_terms.2.2.2.2.1 64 = some (.getfield 13) := by decide +kernel
theorem cd_X12_terms_67 : ylk m_X12_terms.2.2.2.2.1 67 = some (.iload 6) := by decide +kernel
theorem cd_X12_terms_69 : ylk m_X12_terms.2.2.2.2.1 69 = some (.iconst 2) := by decide +kernel
theorem cd_X12_terms_70 : ylk m_X12_terms.2.2.2.2.1 70 = some (.invokestatic 54) := by decide +kernel
theorem cd_X12_terms_73 : ylk m_X12_terms.2.2.2.2.1 73 = some (.aload_n 0) := by decide +kernel
theorem cd_X12_terms_74 : ylk m_X12_terms.2.2.2.2.1 74 = some (.bipush 100) := by decide +kernel
theorem cd_X12_terms_76 : ylk m_X12_terms.2.2.2.2.1 76 = some (.invokevirtual 260) := by decide +kernel
theorem cd_X12_terms_79 : ylk m_X12_terms.2.2.2.2.1 79 = some (.iastore) := by decide +kernel
theorem cd_X12_terms_80 : ylk m_X12_terms.2.2.2.2.1 80 = some (.iinc 6 1) := by decide +kernel
theorem cd_X12_terms_83 : ylk m_X12_terms.2.2.2.2.1 83 = some (.goto (-31)) := by decide +kernel
theorem cd_X12_terms_86 : ylk m_X12_terms.2.2.2.2.1 86 = some (.aload_n 0) := by decide +kernel
theorem cd_X12_terms_87 : ylk m_X12_terms.2.2.2.2.1 87 = some (.getfield 13) := by decide +kernel
theorem cd_X12_terms_90 : ylk m_X12_terms.2.2.2.2.1 90 = some (.iconst 5) := by decide +kernel
theorem cd_X12_terms_91 : ylk m_X12_terms.2.2.2.2.1 91 = some (.invokestatic 132) := by decide +kernel
theorem cd_X12_terms_94 : ylk m_X12_terms.2.2.2.2.1 94 = some (.aload_n 0) := by decide +kernel
theorem cd_X12_terms_95 : ylk m_X12_terms.2.2.2.2.1 95 = some (.getfield 13) := by decide +kernel
theorem cd_X12_terms_98 : ylk m_X12_terms.2.2.2.2.1 98 = some (.invokestatic 219) := by decide +kernel
theorem cd_X12_terms_101 : ylk m_X12_terms.2.2.2.2.1 101 = some (.istore 6) := by decide +kernel
theorem cd_X12_terms_103 : ylk m_X12_terms.2.2.2.2.1 103 = some (.iload 4) := by decide +kernel
theorem cd_X12_terms_105 : ylk m_X12_terms.2.2.2.2.1 105 = some (.iload_n 3) := by decide +kernel
theorem cd_X12_terms_106 : ylk m_X12_terms.2.2.2.2.1 106 = some (.ifCond .ne 13) := by decide +kernel
theorem cd_X12_terms_109 : ylk m_X12_terms.2.2.2.2.1 109 = some (.aload_n 0) := by decide +kernel
theorem cd_X12_terms_110 : ylk m_X12_terms.2.2.2.2.1 110 = some (.getfield 13) := by decide +kernel
theorem cd_X12_terms_113 : ylk m_X12_terms.2.2.2.2.1 113 = some (.invokestatic 160) := by decide +kernel
theorem cd_X12_terms_116 : ylk m_X12_terms.2.2.2.2.1 116 = some (.goto 15) := by decide +kernel
theorem cd_X12_terms_119 : ylk m_X12_terms.2.2.2.2.1 119 = some (.iload 6) := by decide +kernel
theorem cd_X12_terms_121 : ylk m_X12_terms.2.2.2.2.1 121 = some (.ifCond .ge 8) := by decide +kernel
theorem cd_X12_terms_124 : ylk m_X12_terms.2.2.2.2.1 124 = some (.bipush 9) := by decide +kernel
theorem cd_X12_terms_126 : ylk m_X12_terms.2.2.2.2.1 126 = some (.goto 5) := by decide +kernel
theorem cd_X12_terms_129 : ylk m_X12_terms.2.2.2.2.1 129 = some (.iload 6) := by decide +kernel
theorem cd_X12_terms_131 : ylk m_X12_terms.2.2.2.2.1 131 = some (.iadd) := by decide +kernel
theorem cd_X12_terms_132 : ylk m_X12_terms.2.2.2.2.1 132 = some (.istore 4) := by decide +kernel
theorem cd_X12_terms_134 : ylk m_X12_terms.2.2.2.2.1 134 = some (.iinc 5 1) := by decide +kernel
theorem cd_X12_terms_137 : ylk m_X12_terms.2.2.2.2.1 137 = some (.goto (-105)) := by decide +kernel
theorem cd_X12_terms_140 : ylk m_X12_terms.2.2.2.2.1 140 = some (.iload 4) := by decide +kernel
theorem cd_X12_terms_142 : ylk m_X12_terms.2.2.2.2.1 142 = some (.ireturn) := by decide +kernel
noncomputable abbrev yb_X12_terms (C : yC) : ySt → Option (Option Value × yM) := yrn m_X12_terms C
theorem en_X12_terms (n : Nat) (A : yM) (v0 : Nat) (v1 : Int32) (v2 : Int32) (v3 : Int32) : ycall (n + 1) 224 [.ref v0, .int v1, .int v2, .int v3] A = (yi ((ycall n) 138 [.int v1, .int (1 : Int32), .int (20 : Int32)] A)).bind (fun z1 => if z1.1 = 0 then (some (some (.int (-1 : Int32)), z1.2)) else ((yi ((ycall n) 138 [.int v3, .int (0 : Int32), .int (1 : Int32)] z1.2)).bind (fun z2 => if z2.1 = 0 then (some (some (.int (-1 : Int32)), z2.2)) else (ypI z2.2 v0 11 10 v2 (fun A3 => yb_X12_terms (ycall n) (32, [some (.ref v0), some (.int v1), none, some (.int v3), some (.int (0 : Int32)), some (.int (0 : Int32)), none], [], A3)))))) := (ybig_blk 18 _).trans (z_iload_n cd_X12_terms_0 (j := 1) rfl rfl (p := 1) rfl (zgo rfl (z_iconst cd_X12_terms_1 ki_1 (p := 2) rfl (zgo rfl (z_bipush cd_X12_terms_2 kb_20 (p := 4) rfl (zgo rfl (z_cs1 cd_X12_terms_4 (zs (key := 139) (by decide)) cl_X12_c139 rfl rfl rfl rfl (p := 7) rfl (fun _ => (zgo rfl (z_if_eq cd_X12_terms_7 (p := 19) rfl (p2 := 10) rfl (zgo rfl (z_iconst cd_X12_terms_19 ki_m1 (p := 20) rfl (zgo rfl (z_iret cd_X12_terms_20 rfl)))) (zgo rfl (z_iload_n cd_X12_terms_10 (j := 3) rfl rfl (p := 11) rfl (zgo rfl (z_iconst cd_X12_terms_11 ki_0 (p := 12) rfl (zgo rfl (z_iconst cd_X12_terms_12 ki_1 (p := 13) rfl (zgo rfl (z_cs1 cd_X12_terms_13 (zs (key := 139) (by decide)) cl_X12_c139 rfl rfl rfl rfl (p := 16) rfl (fun _ => (zgo rfl (z_if_ne cd_X12_terms_16 (p := 21) rfl (p2 := 19) rfl (zgo rfl (z_iconst cd_X12_terms_19 ki_m1 (p := 20) rfl (zgo rfl (z_iret cd_X12_terms_20 rfl)))) (zgo rfl (z_aload_n cd_X12_terms_21 (j := 0) rfl rfl (p := 22) rfl (zgo rfl (z_iload_n cd_X12_terms_22 (j := 2) rfl rfl (p := 23) rfl (zgo rfl (z_putI cd_X12_terms_23 fd_X12_254 (p := 26) rfl (fun _ => (zgo rfl (z_iconst cd_X12_terms_26 ki_0 (p := 27) rfl (zgo rfl (z_istore cd_X12_terms_27 rfl (p := 29) rfl (zgo rfl (z_iconst cd_X12_terms_29 ki_0 (p := 30) rfl (zgo rfl (z_istore cd_X12_terms_30 rfl (p := 32) rfl (zcut (p := 32) rfl rfl)))))))))))))))))))))))))))))))))))))
theorem bk_X12_terms_32 (C : yC) (A : yM) (v0 : Nat) (v1 : Int32) (v3 : Int32) (v4 : Int32) (v5 : Int32) : yb_X12_terms C (32, [some (.ref v0), some (.int v1), none, some (.int v3), some (.int v4), some (.int v5), none], [], A) = if v1 ≤ v5 then (some (some (.int v4), A)) else (ygR A v0 11 0 (fun a1 => ygR A v0 11 1 (fun a2 => (yv (C 141 [.ref a1, .ref a2] A)).bind (fun A3 => yb_X12_terms C (52, [some (.ref v0), some (.int v1), none, some (.int v3), some (.int v4), some (.int v5), some (.int (0 : Int32))], [], A3))))) := (ybig_blk 11 _).trans (z_iload cd_X12_terms_32 rfl (p := 34) rfl (zgo rfl (z_iload_n cd_X12_terms_34 (j := 1) rfl rfl (p := 35) rfl (zgo rfl (z_ic_ge cd_X12_terms_35 (p := 140) rfl (p2 := 38) rfl (zgo rfl (z_iload cd_X12_terms_140 rfl (p := 142) rfl (zgo rfl (z_iret cd_X12_terms_142 rfl)))) (zgo rfl (z_aload_n cd_X12_terms_38 (j := 0) rfl rfl (p := 39) rfl (zgo rfl (z_getR cd_X12_terms_39 fd_X12_9 (p := 42) rfl (fun _ => (zgo rfl (z_aload_n cd_X12_terms_42 (j := 0) rfl rfl (p := 43) rfl (zgo rfl (z_getR cd_X12_terms_43 fd_X12_13 (p := 46) rfl (fun _ => (zgo rfl (z_cs0 cd_X12_terms_46 (zs (key := 430) (by decide)) cl_X12_c430 rfl rfl rfl rfl (p := 49) rfl (fun _ => (zgo rfl (z_iconst cd_X12_terms_49 ki_0 (p := 50) rfl (zgo rfl (z_istore cd_X12_terms_50 rfl (p := 52) rfl (zcut (p := 52) rfl rfl)))))))))))))))))))))))
theorem bk_X12_terms_52 (C : yC) (A : yM) (v0 : Nat) (v1 : Int32) (v3 : Int32) (v4 : Int32) (v5 : Int32) (v6 : Int32) : yb_X12_terms C (52, [some (.ref v0), some (.int v1), none, some (.int v3), some (.int v4), some (.int v5), some (.int v6)], [], A) = ygR A v0 11 0 (fun a1 => yrd A a1 (1 : Int32) (fun x2 => if x2 ≤ v6 then (ygR A v0 11 1 (fun a3 => (yv (C 159 [.ref a3, .int (5 : Int32)] A)).bind (fun A4 => ygR A4 v0 11 1 (fun a5 => (yi (C 204 [.ref a5] A4)).bind (fun z6 => if v3 = 0 then (ygR z6.2 v0 11 1 (fun a7 => (yi (C 155 [.ref a7] z6.2)).bind (fun z8 => yb_X12_terms C (32, [some (.ref v0), some (.int v1), none, some (.int v3), some (.int (v4 + z8.1)), some (.int (v5 + (1 : Int32))), none], [], z8.2)))) else (if 0 ≤ z6.1 then (yb_X12_terms C (32, [some (.ref v0), some (.int v1), none, some (.int v3), some (.int (v4 + z6.1)), some (.int (v5 + (1 : Int32))), none], [], z6.2)) else (yb_X12_terms C (32, [some (.ref v0), some (.int v1), none, some (.int v3), some (.int (v4 + (9 : Int32))), some (.int (v5 + (1 : Int32))), none], [], z6.2)))))))) else (ygR A v0 11 1 (fun a9 => (yi (C 143 [.int v6, .int (2 : Int32)] A)).bind (fun z10 => (yi (yvt [(11, 223)] C [.ref v0, .int (100 : Int32)] z10.2)).bind (fun z11 => ywr z11.2 a9 z10.1 z11.1 (fun A12 => yb_X12_terms C (52, [some (.ref v0), some (.int v1), none, some (.int v3), some (.int v4), some (.int v5), some (.int (v6 + (1 : Int32)))], [], A12)))))))) := (ybig_blk 26 _).trans (z_iload cd_X12_terms_52 rfl (p := 54) rfl (zgo rfl (z_aload_n cd_X12_terms_54 (j := 0) rfl rfl (p := 55) rfl (zgo rfl (z_getR cd_X12_terms_55 fd_X12_9 (p := 58) rfl (fun _ => (zgo rfl (z_iconst cd_X12_terms_58 ki_1 (p := 59) rfl (zgo rfl (z_iaload cd_X12_terms_59 (p := 60) rfl (fun _ => (zgo rfl (z_ic_ge cd_X12_terms_60 (p := 86) rfl (p2 := 63) rfl (zgo rfl (z_aload_n cd_X12_terms_86 (j := 0) rfl rfl (p := 87) rfl (zgo rfl (z_getR cd_X12_terms_87 fd_X12_13 (p := 90) rfl (fun _ => (zgo rfl (z_iconst cd_X12_terms_90 ki_5 (p := 91) rfl (zgo rfl (z_cs0 cd_X12_terms_91 (zs (key := 397) (by decide)) cl_X12_c397 rfl rfl rfl rfl (p := 94) rfl (fun _ => (zgo rfl (z_aload_n cd_X12_terms_94 (j := 0) rfl rfl (p := 95) rfl (zgo rfl (z_getR cd_X12_terms_95 fd_X12_13 (p := 98) rfl (fun _ => (zgo rfl (z_cs1 cd_X12_terms_98 (zs (key := 658) (by decide)) cl_X12_c658 rfl rfl rfl rfl (p := 101) rfl (fun _ => (zgo rfl (z_istore cd_X12_terms_101 rfl (p := 103) rfl (zgo rfl (z_iload cd_X12_terms_103 rfl (p := 105) rfl (zgo rfl (z_iload_n cd_X12_terms_105 (j := 3) rfl rfl (p := 106) rfl (zgo rfl (z_if_ne cd_X12_terms_106 (p := 119) rfl (p2 := 109) rfl (zgo rfl (z_aload_n cd_X12_terms_109 (j := 0) rfl rfl (p := 110) rfl (zgo rfl (z_getR cd_X12_terms_110 fd_X12_13 (p := 113) rfl (fun _ => (zgo rfl (z_cs1 cd_X12_terms_113 (zs (key := 481) (by decide)) cl_X12_c481 rfl rfl rfl rfl (p := 116) rfl (fun _ => (zgo rfl (z_goto cd_X12_terms_116 (p := 131) rfl (zgo rfl (z_iadd cd_X12_terms_131 (p := 132) rfl (zgo rfl (z_istore cd_X12_terms_132 rfl (p := 134) rfl (zgo rfl (z_iinc cd_X12_terms_134 ki_1 rfl rfl (p := 137) rfl (zgo rfl (z_goto cd_X12_terms_137 (p := 32) rfl (zcut (p := 32) rfl rfl))))))))))))))))))) (zgo rfl (z_iload cd_X12_terms_119 rfl (p := 121) rfl (zgo rfl (z_if_ge cd_X12_terms_121 (p := 129) rfl (p2 := 124) rfl (zgo rfl (z_iload cd_X12_terms_129 rfl (p := 131) rfl (zgo rfl (z_iadd cd_X12_terms_131 (p := 132) rfl (zgo rfl (z_istore cd_X12_terms_132 rfl (p := 134) rfl (zgo rfl (z_iinc cd_X12_terms_134 ki_1 rfl rfl (p := 137) rfl (zgo rfl (z_goto cd_X12_terms_137 (p := 32) rfl (zcut (p := 32) rfl rfl))))))))))) (zgo rfl (z_bipush cd_X12_terms_124 kb_9 (p := 126) rfl (zgo rfl (z_goto cd_X12_terms_126 (p := 131) rfl (zgo rfl (z_iadd cd_X12_terms_131 (p := 132) rfl (zgo rfl (z_istore cd_X12_terms_132 rfl (p := 134) rfl (zgo rfl (z_iinc cd_X12_terms_134 ki_1 rfl rfl (p := 137) rfl (zgo rfl (z_goto cd_X12_terms_137 (p := 32) rfl (zcut (p := 32) rfl rfl))))))))))))))))))))))))))))))))))))))))))) (zgo rfl (z_aload_n cd_X12_terms_63 (j := 0) rfl rfl (p := 64) rfl (zgo rfl (z_getR cd_X12_terms_64 fd_X12_13 (p := 67) rfl (fun _ => (zgo rfl (z_iload cd_X12_terms_67 rfl (p := 69) rfl (zgo rfl (z_iconst cd_X12_terms_69 ki_2 (p := 70) rfl (zgo rfl (z_cs1 cd_X12_terms_70 (zs (key := 163) (by decide)) cl_X12_c163 rfl rfl rfl rfl (p := 73) rfl (fun _ => (zgo rfl (z_aload_n cd_X12_terms_73 (j := 0) rfl rfl (p := 74) rfl (zgo rfl (z_bipush cd_X12_terms_74 kb_100 (p := 76) rfl (zgo rfl (z_cv1 cd_X12_terms_76 (zv (key := 780) (by decide)) cl_X12_c780 rfl rfl rfl rfl (p := 79) rfl (fun _ => (zgo rfl (z_iastore cd_X12_terms_79 (p := 80) rfl (fun _ => (zgo rfl (z_iinc cd_X12_terms_80 ki_1 rfl rfl (p := 83) rfl (zgo rfl (z_goto cd_X12_terms_83 (p := 52) rfl (zcut (p := 52) rfl rfl))))))))))))))))))))))))))))))))))))))))
theorem cd_X12_image_0 : ylk m_X12_image.2.2.2.2.1 0 = some (.aload_n 0) := by decide +kernel
theorem cd_X12_image_1 : ylk m_X12_image.2.2.2.2.1 1 = some (.getfield 9) := by decide +kernel
theorem cd_X12_image_4 : ylk m_X12_image.2.2.2.2.1 4 = some (.aload_n 0) := by decide +kernel
theorem cd_X12_image_5 : ylk m_X12_image.2.2.2.2.1 5 = some (.getfield 16) := by decide +kernel
theorem cd_X12_image_8 : ylk m_X12_image.2.2.2.2.1 8 = some (.invokestatic 143) := by decide +kernel
theorem cd_X12_image_11 : ylk m_X12_image.2.2.2.2.1 11 = some (.aload_n 0) := by decide +kernel
theorem cd_X12_image_12 : ylk m_X12_image.2.2.2.2.1 12 = some (.iconst 1) := by decide +kernel
theorem cd_X12_image_13 : ylk m_X12_image.2.2.2.2.1 13 = some (.putfield 263) := by decide +kernel
theorem cd_X12_image_16 : ylk m_X12_image.2.2.2.2.1 16 = some (.aload_n 0) := by decide +kernel
theorem cd_X12_image_17 : ylk m_X12_image.2.2.2.2.1 17 = some (.getfield 9) := by decide +kernel
theorem cd_X12_image_20 : ylk m_X12_image.2.2.2.2.1 20 = some (.iconst 2) := by decide +kernel
theorem cd_X12_image_21 : ylk m_X12_image.2.2.2.2.1 21 = some (.iaload) := by decide +kernel
theorem cd_X12_image_22 : ylk m_X12_image.2.2.2.2.1 22 = some (.ireturn) := by decide +kernel
noncomputable abbrev yb_X12_image (C : yC) : ySt → Option (Option Value × yM) := yrn m_X12_image C
theorem en_X12_image (n : Nat) (A : yM) (v0 : Nat) : ycall (n + 1) 225 [.ref v0] A = ygR A v0 11 0 (fun a1 => ygR A v0 11 2 (fun a2 => (yv ((ycall n) 141 [.ref a1, .ref a2] A)).bind (fun A3 => if (1 : Int32) = 0 ∨ (1 : Int32) = 1 then (ypI A3 v0 11 4 (1 : Int32) (fun A4 => ygR A4 v0 11 0 (fun a5 => yrd A4 a5 (2 : Int32) (fun x6 => some (some (.int x6), A4))))) else none))) := (ybig_blk 14 _).trans (z_aload_n cd_X12_image_0 (j := 0) rfl rfl (p := 1) rfl (zgo rfl (z_getR cd_X12_image_1 fd_X12_9 (p := 4) rfl (fun _ => (zgo rfl (z_aload_n cd_X12_image_4 (j := 0) rfl rfl (p := 5) rfl (zgo rfl (z_getR cd_X12_image_5 fd_X12_16 (p := 8) rfl (fun _ => (zgo rfl (z_cs0 cd_X12_image_8 (zs (key := 430) (by decide)) cl_X12_c430 rfl rfl rfl rfl (p := 11) rfl (fun _ => (zgo rfl (z_aload_n cd_X12_image_11 (j := 0) rfl rfl (p := 12) rfl (zgo rfl (z_iconst cd_X12_image_12 ki_1 (p := 13) rfl (zgo rfl (z_putZ cd_X12_image_13 fd_X12_263 (p := 16) rfl (fun _ => (zgo rfl (z_aload_n cd_X12_image_16 (j := 0) rfl rfl (p := 17) rfl (zgo rfl (z_getR cd_X12_image_17 fd_X12_9 (p := 20) rfl (fun _ => (zgo rfl (z_iconst cd_X12_image_20 ki_2 (p := 21) rfl (zgo rfl (z_iaload cd_X12_image_21 (p := 22) rfl (fun _ => (zgo rfl (z_iret cd_X12_image_22 rfl)))))))))))))))))))))))))))))))
theorem cd_X12_restore_0 : ylk m_X12_restore.2.2.2.2.1 0 = some (.aload_n 0) := by decide +kernel
theorem cd_X12_restore_1 : ylk m_X12_restore.2.2.2.2.1 1 = some (.getfield 263) := by decide +kernel
theorem cd_X12_restore_4 : ylk m_X12_restore.2.2.2.2.1 4 = some (.ifCond .ne 6) := by decide +kernel
theorem cd_X12_restore_7 : ylk m_X12_restore.2.2.2.2.1 7 = some (.bipush (-3)) := by decide +kernel
theorem cd_X12_restore_9 : ylk m_X12_restore.2.2.2.2.1 9 = some (.ireturn) := by decide +kernel
theorem cd_X12_restore_10 : ylk m_X12_restore.2.2.2.2.1 10 = some (.aload_n 0) := by decide +kernel
theorem cd_X12_restore_11 : ylk m_X12_restore.2.2.2.2.1 11 = some (.getfield 16) := by decide +kernel
theorem cd_X12_restore_14 : ylk m_X12_restore.2.2.2.2.1 14 = some (.aload_n 0) := by decide +kernel
theorem cd_X12_restore_15 : ylk m_X12_restore.2.2.2.2.1 15 = some (.getfield 9) := by decide +kernel
theorem cd_X12_restore_18 : ylk m_X12_restore.2.2.2.2.1 18 = some (.invokestatic 143) := by decide +kernel
theorem cd_X12_restore_21 : ylk m_X12_restore.2.2.2.2.1 21 = some (.aload_n 0) := by decide +kernel
theorem cd_X12_restore_22 : ylk m_X12_restore.2.2.2.2.1 22 = some (.getfield 9) := by decide +kernel
theorem cd_X12_restore_25 : ylk m_X12_restore.2.2.2.2.1 25 = some (.iconst 2) := by decide +kernel
theorem cd_X12_restore_26 : ylk m_X12_restore.2.2.2.2.1 26 = some (.iaload) := by decide +kernel
theorem cd_X12_restore_27 : ylk m_X12_restore.2.2.2.2.1 27 = some (.ireturn) := by decide +kernel
noncomputable abbrev yb_X12_restore (C : yC) : ySt → Option (Option Value × yM) := yrn m_X12_restore C
theorem en_X12_restore (n : Nat) (A : yM) (v0 : Nat) : ycall (n + 1) 226 [.ref v0] A = ygI A v0 11 4 (fun x1 => if x1 = 0 then (some (some (.int (-3 : Int32)), A)) else (ygR A v0 11 2 (fun a2 => ygR A v0 11 0 (fun a3 => (yv ((ycall n) 141 [.ref a2, .ref a3] A)).bind (fun A4 => ygR A4 v0 11 0 (fun a5 => yrd A4 a5 (2 : Int32) (fun x6 => some (some (.int x6), A4)))))))) := (ybig_blk 14 _).trans (z_aload_n cd_X12_restore_0 (j := 0) rfl rfl (p := 1) rfl (zgo rfl (z_getZ cd_X12_restore_1 fd_X12_263 (p := 4) rfl (fun _ => (zgo rfl (z_if_ne cd_X12_restore_4 (p := 10) rfl (p2 := 7) rfl (zgo rfl (z_bipush cd_X12_restore_7 kb_m3 (p := 9) rfl (zgo rfl (z_iret cd_X12_restore_9 rfl)))) (zgo rfl (z_aload_n cd_X12_restore_10 (j := 0) rfl rfl (p := 11) rfl (zgo rfl (z_getR cd_X12_restore_11 fd_X12_16 (p := 14) rfl (fun _ => (zgo rfl (z_aload_n cd_X12_restore_14 (j := 0) rfl rfl (p := 15) rfl (zgo rfl (z_getR cd_X12_restore_15 fd_X12_9 (p := 18) rfl (fun _ => (zgo rfl (z_cs0 cd_X12_restore_18 (zs (key := 430) (by decide)) cl_X12_c430 rfl rfl rfl rfl (p := 21) rfl (fun _ => (zgo rfl (z_aload_n cd_X12_restore_21 (j := 0) rfl rfl (p := 22) rfl (zgo rfl (z_getR cd_X12_restore_22 fd_X12_9 (p := 25) rfl (fun _ => (zgo rfl (z_iconst cd_X12_restore_25 ki_2 (p := 26) rfl (zgo rfl (z_iaload cd_X12_restore_26 (p := 27) rfl (fun _ => (zgo rfl (z_iret cd_X12_restore_27 rfl)))))))))))))))))))))))))))))))
theorem cd_X12_count_0 : ylk m_X12_count.2.2.2.2.1 0 = some (.iconst 0) := by decide +kernel
theorem cd_X12_count_1 : ylk m_X12_count.2.2.2.2.1 1 = some (.istore_n 2) := by decide +kernel
theorem cd_X12_count_2 : ylk m_X12_count.2.2.2.2.1 2 = some (.iload_n 1) := by decide +kernel
theorem cd_X12_count_3 : ylk m_X12_count.2.2.2.2.1 3 = some (.tableswitch 131 0 6 #[41, 41, 41, 48, 83, 118, 123]) := by decide +kernel
theorem cd_X12_count_44 : ylk m_X12_count.2.2.2.2.1 44 = some (.aload_n 0) := by decide +kernel
theorem cd_X12_count_45 : ylk m_X12_count.2.2.2.2.1 45 = some (.getfield 9) := by decide +kernel
theorem cd_X12_count_48 : ylk m_X12_count.2.2.2.2.1 48 = some (.iload_n 1) := by decide +kernel
theorem cd_X12_count_49 : ylk m_X12_count.2.2.2.2.1 49 = some (.iaload) := by decide +kernel
theorem cd_X12_count_50 : ylk m_X12_count.2.2.2.2.1 50 = some (.ireturn) := by decide +kernel
theorem cd_X12_count_51 : ylk m_X12_count.2.2.2.2.1 51 = some (.iconst 0) := by decide +kernel
theorem cd_X12_count_52 : ylk m_X12_count.2.2.2.2.1 52 = some (.istore_n 3) := by decide +kernel
theorem cd_X12_count_53 : ylk m_X12_count.2.2.2.2.1 53 = some (.iload_n 3) := by decide +kernel
theorem cd_X12_count_54 : ylk m_X12_count.2.2.2.2.1 54 = some (.aload_n 0) := by decide +kernel
theorem cd_X12_count_55 : ylk m_X12_count.2.2.2.2.1 55 = some (.getfield 9) := by decide +kernel
theorem cd_X12_count_58 : ylk m_X12_count.2.2.2.2.1 58 = some (.iconst 0) := by decide +kernel
theorem cd_X12_count_59 : ylk m_X12_count.2.2.2.2.1 59 = some (.iaload) := by decide +kernel
theorem cd_X12_count_60 : ylk m_X12_count.2.2.2.2.1 60 = some (.if_icmp .ge 24) := by decide +kernel
theorem cd_X12_count_63 : ylk m_X12_count.2.2.2.2.1 63 = some (.iload_n 2) := by decide +kernel
theorem cd_X12_count_64 : ylk m_X12_count.2.2.2.2.1 64 = some (.aload_n 0) := by decide +kernel
theorem cd_X12_count_65 : ylk m_X12_count.2.2.2.2.1 65 = some (.getfield 9) := by decide +kernel
theorem cd_X12_count_68 : ylk m_X12_count.2.2.2.2.1 68 = some (.iload_n 3) := by decide +kernel
theorem cd_X12_count_69 : ylk m_X12_count.2.2.2.2.1 69 = some (.iconst 2) := by decide +kernel
theorem cd_X12_count_70 : ylk m_X12_count.2.2.2.2.1 70 = some (.invokestatic 50) := by decide +kernel
theorem cd_X12_count_73 : ylk m_X12_count.2.2.2.2.1 73 = some (.iaload) := by decide +kernel
theorem cd_X12_count_74 : ylk m_X12_count.2.2.2.2.1 74 = some (.iload_n 3) := by decide +kernel
theorem cd_X12_count_75 : ylk m_X12_count.2.2.2.2.1 75 = some (.ishl) := by decide +kernel
theorem cd_X12_count_76 : ylk m_X12_count.2.2.2.2.1 76 = some (.ior) := by decide +kernel
theorem cd_X12_count_77 : ylk m_X12_count.2.2.2.2.1 77 = some (.istore_n 2) := by decide +kernel
theorem cd_X12_count_78 : ylk m_X12_count.2.2.2.2.1 78 = some (.iinc 3 1) := by decide +kernel
theorem cd_X12_count_81 : ylk m_X12_count.2.2.2.2.1 81 = some (.goto (-28)) := by decide +kernel
theorem cd_X12_count_84 : ylk m_X12_count.2.2.2.2.1 84 = some (.iload_n 2) := by decide +kernel
theorem cd_X12_count_85 : ylk m_X12_count.2.2.2.2.1 85 = some (.ireturn) := by decide +kernel
theorem cd_X12_count_86 : ylk m_X12_count.2.2.2.2.1 86 = some (.iconst 0) := by decide +kernel
theorem cd_X12_count_87 : ylk m_X12_count.2.2.2.2.1 87 = some (.istore_n 3) := by decide +kernel
theorem cd_X12_count_88 : ylk m_X12_count.2.2.2.2.1 88 = some (.iload_n 3) := by decide +kernel
theorem cd_X12_count_89 : ylk m_X12_count.2.2.2.2.1 89 = some (.aload_n 0) := by decide +kernel
theorem cd_X12_count_90 : ylk m_X12_count.2.2.2.2.1 90 = some (.getfield 9) := by decide +kernel
theorem cd_X12_count_93 : ylk m_X12_count.2.2.2.2.1 93 = some (.iconst 1) := by decide +kernel
theorem cd_X12_count_94 : ylk m_X12_count.2.2.2.2.1 94 = some (.iaload) := by decide +kernel
theorem cd_X12_count_95 : ylk m_X12_count.2.2.2.2.1 95 = some (.if_icmp .ge 24) := by decide +kernel
theorem cd_X12_count_98 : ylk m_X12_count.2.2.2.2.1 98 = some (.iload_n 2) := by decide +kernel
theorem cd_X12_count_99 : ylk m_X12_count.2.2.2.2.1 99 = some (.aload_n 0) := by decide +kernel
theorem cd_X12_count_100 : ylk m_X12_count.2.2.2.2.1 100 = some (.getfield 9) := by decide +kernel
theorem cd_X12_count_103 : ylk m_X12_count.2.2.2.2.1 103 = some (.iload_n 3) := by decide +kernel
theorem cd_X12_count_104 : ylk m_X12_count.2.2.2.2.1 104 = some (.iconst 4) := by decide +kernel
theorem cd_X12_count_105 : ylk m_X12_count.2.2.2.2.1 105 = some (.invokestatic 54) := by decide +kernel
theorem cd_X12_count_108 : ylk m_X12_count.2.2.2.2.1 108 = some (.iaload) := by decide +kernel
theorem cd_X12_count_109 : ylk m_X12_count.2.2.2.2.1 109 = some (.iload_n 3) := by decide +kernel
theorem cd_X12_count_110 : ylk m_X12_count.2.2.2.2.1 110 = some (.ishl) := by decide +kernel
theorem cd_X12_count_111 : ylk m_X12_count.2.2.2.2.1 111 = some (.ior) := by decide +kernel
theorem cd_X12_count_112 : ylk m_X12_count.2.2.2.2.1 112 = some (.istore_n 2) := by decide +kernel
theorem cd_X12_count_113 : ylk m_X12_count.2.2.2.2.1 113 = some (.iinc 3 1) := by decide +kernel
theorem cd_X12_count_116 : ylk m_X12_count.2.2.2.2.1 116 = some (.goto (-28)) := by decide +kernel
theorem cd_X12_count_119 : ylk m_X12_count.2.2.2.2.1 119 = some (.iload_n 2) := by decide +kernel
theorem cd_X12_count_120 : ylk m_X12_count.2.2.2.2.1 120 = some (.ireturn) := by decide +kernel
theorem cd_X12_count_121 : ylk m_X12_count.2.2.2.2.1 121 = some (.aload_n 0) := by decide +kernel
theorem cd_X12_count_122 : ylk m_X12_count.2.2.2.2.1 122 = some (.invokevirtual 251) := by decide +kernel
theorem cd_X12_count_125 : ylk m_X12_count.2.2.2.2.1 125 = some (.ireturn) := by decide +kernel
theorem cd_X12_count_126 : ylk m_X12_count.2.2.2.2.1 126 = some (.aload_n 0) := by decide +kernel
theorem cd_X12_count_127 : ylk m_X12_count.2.2.2.2.1 127 = some (.getfield 9) := by decide +kernel
theorem cd_X12_count_130 : ylk m_X12_count.2.2.2.2.1 130 = some (.invokestatic 160) := by decide +kernel
theorem cd_X12_count_133 : ylk m_X12_count.2.2.2.2.1 133 = some (.ireturn) := by decide +kernel
theorem cd_X12_count_134 : ylk m_X12_count.2.2.2.2.1 134 = some (.iconst (-1)) := by decide +kernel
theorem cd_X12_count_135 : ylk m_X12_count.2.2.2.2.1 135 = some (.ireturn) := by decide +kernel
noncomputable abbrev yb_X12_count (C : yC) : ySt → Option (Option Value × yM) := yrn m_X12_count C
theorem en_X12_count (n : Nat) (A : yM) (v0 : Nat) (v1 : Int32) : ycall (n + 1) 227 [.ref v0, .int v1] A = (if v1 = (0 : Int32) then (ygR A v0 11 0 (fun a8 => yrd A a8 v1 (fun x9 => some (some (.int x9), A)))) else (if v1 = (1 : Int32) then (ygR A v0 11 0 (fun a6 => yrd A a6 v1 (fun x7 => some (some (.int x7), A)))) else (if v1 = (2 : Int32) then (ygR A v0 11 0 (fun a4 => yrd A a4 v1 (fun x5 => some (some (.int x5), A)))) else (if v1 = (3 : Int32) then (yb_X12_count (ycall n) (53, [some (.ref v0), none, some (.int (0 : Int32)), some (.int (0 : Int32))], [], A)) else (if v1 = (4 : Int32) then (yb_X12_count (ycall n) (88, [some (.ref v0), none, some (.int (0 : Int32)), some (.int (0 : Int32))], [], A)) else (if v1 = (5 : Int32) then ((yi (yvt [(11, 219)] (ycall n) [.ref v0] A)).bind (fun z3 => some (some (.int z3.1), z3.2))) else (if v1 = (6 : Int32) then (ygR A v0 11 0 (fun a1 => (yi ((ycall n) 155 [.ref a1] A)).bind (fun z2 => some (some (.int z2.1), z2.2)))) else (some (some (.int (-1 : Int32)), A))))))))) := (ybig_blk 10 _).trans (z_iconst cd_X12_count_0 ki_0 (p := 1) rfl (zgo rfl (z_istore_n cd_X12_count_1 (j := 2) rfl rfl (p := 2) rfl (zgo rfl (z_iload_n cd_X12_count_2 (j := 1) rfl rfl (p := 3) rfl (zgo rfl (z_sw cd_X12_count_3 (p := 134) rfl (ps := [(0, 44), (1, 44), (2, 44), (3, 51), (4, 86), (5, 121), (6, 126)]) rfl (z_swc ki_0 (zgo rfl (z_aload_n cd_X12_count_44 (j := 0) rfl rfl (p := 45) rfl (zgo rfl (z_getR cd_X12_count_45 fd_X12_9 (p := 48) rfl (fun _ => (zgo rfl (z_iload_n cd_X12_count_48 (j := 1) rfl rfl (p := 49) rfl (zgo rfl (z_iaload cd_X12_count_49 (p := 50) rfl (fun _ => (zgo rfl (z_iret cd_X12_count_50 rfl)))))))))))) (z_swc ki_1 (zgo rfl (z_aload_n cd_X12_count_44 (j := 0) rfl rfl (p := 45) rfl (zgo rfl (z_getR cd_X12_count_45 fd_X12_9 (p := 48) rfl (fun _ => (zgo rfl (z_iload_n cd_X12_count_48 (j := 1) rfl rfl (p := 49) rfl (zgo rfl (z_iaload cd_X12_count_49 (p := 50) rfl (fun _ => (zgo rfl (z_iret cd_X12_count_50 rfl)))))))))))) (z_swc ki_2 (zgo rfl (z_aload_n cd_X12_count_44 (j := 0) rfl rfl (p := 45) rfl (zgo rfl (z_getR cd_X12_count_45 fd_X12_9 (p := 48) rfl (fun _ => (zgo rfl (z_iload_n cd_X12_count_48 (j := 1) rfl rfl (p := 49) rfl (zgo rfl (z_iaload cd_X12_count_49 (p := 50) rfl (fun _ => (zgo rfl (z_iret cd_X12_count_50 rfl)))))))))))) (z_swc ki_3 (zgo rfl (z_iconst cd_X12_count_51 ki_0 (p := 52) rfl (zgo rfl (z_istore_n cd_X12_count_52 (j := 3) rfl rfl (p := 53) rfl (zcut (p := 53) rfl rfl))))) (z_swc ki_4 (zgo rfl (z_iconst cd_X12_count_86 ki_0 (p := 87) rfl (zgo rfl (z_istore_n cd_X12_count_87 (j := 3) rfl rfl (p := 88) rfl (zcut (p := 88) rfl rfl))))) (z_swc ki_5 (zgo rfl (z_aload_n cd_X12_count_121 (j := 0) rfl rfl (p := 122) rfl (zgo rfl (z_cv1 cd_X12_count_122 (zv (key := 753) (by decide)) cl_X12_c753 rfl rfl rfl rfl (p := 125) rfl (fun _ => (zgo rfl (z_iret cd_X12_count_125 rfl))))))) (z_swc ki_6 (zgo rfl (z_aload_n cd_X12_count_126 (j := 0) rfl rfl (p := 127) rfl (zgo rfl (z_getR cd_X12_count_127 fd_X12_9 (p := 130) rfl (fun _ => (zgo rfl (z_cs1 cd_X12_count_130 (zs (key := 481) (by decide)) cl_X12_c481 rfl rfl rfl rfl (p := 133) rfl (fun _ => (zgo rfl (z_iret cd_X12_count_133 rfl)))))))))) (z_swn (zgo rfl (z_iconst cd_X12_count_134 ki_m1 (p := 135) rfl (zgo rfl (z_iret cd_X12_count_135 rfl)))))))))))))))))))
theorem bk_X12_count_53 (C : yC) (A : yM) (v0 : Nat) (v2 : Int32) (v3 : Int32) : yb_X12_count C (53, [some (.ref v0), none, some (.int v2), some (.int v3)], [], A) = ygR A v0 11 0 (fun a1 => yrd A a1 (0 : Int32) (fun x2 => if x2 ≤ v3 then (some (some (.int v2), A)) else (ygR A v0 11 0 (fun a3 => (yi (C 142 [.int v3, .int (2 : Int32)] A)).bind (fun z4 => yrd z4.2 a3 z4.1 (fun x5 => yb_X12_count C (53, [some (.ref v0), none, some (.int (v2 ||| (x5 <<< (v3 &&& 31)))), some (.int (v3 + (1 : Int32)))], [], z4.2))))))) := (ybig_blk 20 _).trans (z_iload_n cd_X12_count_53 (j := 3) rfl rfl (p := 54) rfl (zgo rfl (z_aload_n cd_X12_count_54 (j := 0) rfl rfl (p := 55) rfl (zgo rfl (z_getR cd_X12_count_55 fd_X12_9 (p := 58) rfl (fun _ => (zgo rfl (z_iconst cd_X12_count_58 ki_0 (p := 59) rfl (zgo rfl (z_iaload cd_X12_count_59 (p := 60) rfl (fun _ => (zgo rfl (z_ic_ge cd_X12_count_60 (p := 84) rfl (p2 := 63) rfl (zgo rfl (z_iload_n cd_X12_count_84 (j := 2) rfl rfl (p := 85) rfl (zgo rfl (z_iret cd_X12_count_85 rfl)))) (zgo rfl (z_iload_n cd_X12_count_63 (j := 2) rfl rfl (p := 64) rfl (zgo rfl (z_aload_n cd_X12_count_64 (j := 0) rfl rfl (p := 65) rfl (zgo rfl (z_getR cd_X12_count_65 fd_X12_9 (p := 68) rfl (fun _ => (zgo rfl (z_iload_n cd_X12_count_68 (j := 3) rfl rfl (p := 69) rfl (zgo rfl (z_iconst cd_X12_count_69 ki_2 (p := 70) rfl (zgo rfl (z_cs1 cd_X12_count_70 (zs (key := 151) (by decide)) cl_X12_c151 rfl rfl rfl rfl (p := 73) rfl (fun _ => (zgo rfl (z_iaload cd_X12_count_73 (p := 74) rfl (fun _ => (zgo rfl (z_iload_n cd_X12_count_74 (j := 3) rfl rfl (p := 75) rfl (zgo rfl (z_ishl cd_X12_count_75 (p := 76) rfl (zgo rfl (z_ior cd_X12_count_76 (p := 77) rfl (zgo rfl (z_istore_n cd_X12_count_77 (j := 2) rfl rfl (p := 78) rfl (zgo rfl (z_iinc cd_X12_count_78 ki_1 rfl rfl (p := 81) rfl (zgo rfl (z_goto cd_X12_count_81 (p := 53) rfl (zcut (p := 53) rfl rfl)))))))))))))))))))))))))))))))))))))))))))
theorem bk_X12_count_88 (C : yC) (A : yM) (v0 : Nat) (v2 : Int32) (v3 : Int32) : yb_X12_count C (88, [some (.ref v0), none, some (.int v2), some (.int v3)], [], A) = ygR A v0 11 0 (fun a1 => yrd A a1 (1 : Int32) (fun x2 => if x2 ≤ v3 then (some (some (.int v2), A)) else (ygR A v0 11 0 (fun a3 => (yi (C 143 [.int v3, .int (4 : Int32)] A)).bind (fun z4 => yrd z4.2 a3 z4.1 (fun x5 => yb_X12_count C (88, [some (.ref v0), none, some (.int (v2 ||| (x5 <<< (v3 &&& 31)))), some (.int (v3 + (1 : Int32)))], [], z4.2))))))) := (ybig_blk 20 _).trans (z_iload_n cd_X12_count_88 (j := 3) rfl rfl (p := 89) rfl (zgo rfl (z_aload_n cd_X12_count_89 (j := 0) rfl rfl (p := 90) rfl (zgo rfl (z_getR cd_X12_count_90 fd_X12_9 (p := 93) rfl (fun _ => (zgo rfl (z_iconst cd_X12_count_93 ki_1 (p := 94) rfl (zgo rfl (z_iaload cd_X12_count_94 (p := 95) rfl (fun _ => (zgo rfl (z_ic_ge cd_X12_count_95 (p := 119) rfl (p2 := 98) rfl (zgo rfl (z_iload_n cd_X12_count_119 (j := 2) rfl rfl (p := 120) rfl (zgo rfl (z_iret cd_X12_count_120 rfl)))) (zgo rfl (z_iload_n cd_X12_count_98 (j := 2) rfl rfl (p := 99) rfl (zgo rfl (z_aload_n cd_X12_count_99 (j := 0) rfl rfl (p := 100) rfl (zgo rfl (z_getR cd_X12_count_100 fd_X12_9 (p := 103) rfl (fun _ => (zgo rfl (z_iload_n cd_X12_count_103 (j := 3) rfl rfl (p := 104) rfl (zgo rfl (z_iconst cd_X12_count_104 ki_4 (p := 105) rfl (zgo rfl (z_cs1 cd_X12_count_105 (zs (key := 163) (by decide)) cl_X12_c163 rfl rfl rfl rfl (p := 108) rfl (fun _ => (zgo rfl (z_iaload cd_X12_count_108 (p := 109) rfl (fun _ => (zgo rfl (z_iload_n cd_X12_count_109 (j := 3) rfl rfl (p := 110) rfl (zgo rfl (z_ishl cd_X12_count_110 (p := 111) rfl (zgo rfl (z_ior cd_X12_count_111 (p := 112) rfl (zgo rfl (z_istore_n cd_X12_count_112 (j := 2) rfl rfl (p := 113) rfl (zgo rfl (z_iinc cd_X12_count_113 ki_1 rfl rfl (p := 116) rfl (zgo rfl (z_goto cd_X12_count_116 (p := 88) rfl (zcut (p := 88) rfl rfl)))))))))))))))))))))))))))))))))))))))))))
theorem cd_X12_thrown_0 : ylk m_X12_thrown.2.2.2.2.1 0 = some (.aload_n 0) := by decide +kernel
theorem cd_X12_thrown_1 : ylk m_X12_thrown.2.2.2.2.1 1 = some (.getfield 267) := by decide +kernel
theorem cd_X12_thrown_4 : ylk m_X12_thrown.2.2.2.2.1 4 = some (.ireturn) := by decide +kernel
noncomputable abbrev yb_X12_thrown (C : yC) : ySt → Option (Option Value × yM) := yrn m_X12_thrown C
theorem en_X12_thrown (n : Nat) (A : yM) (v0 : Nat) : ycall (n + 1) 228 [.ref v0] A = ygI A v0 11 17 (fun x1 => some (some (.int x1), A)) := (ybig_blk 4 _).trans (z_aload_n cd_X12_thrown_0 (j := 0) rfl rfl (p := 1) rfl (zgo rfl (z_getI cd_X12_thrown_1 fd_X12_267 (p := 4) rfl (fun _ => (zgo rfl (z_iret cd_X12_thrown_4 rfl))))))
theorem cd_X12_isShelf_0 : ylk m_X12_isShelf.2.2.2.2.1 0 = some (.iload_n 0) := by decide +kernel
theorem cd_X12_isShelf_1 : ylk m_X12_isShelf.2.2.2.2.1 1 = some (.iconst 0) := by decide +kernel
theorem cd_X12_isShelf_2 : ylk m_X12_isShelf.2.2.2.2.1 2 = some (.bipush 7) := by decide +kernel
theorem cd_X12_isShelf_4 : ylk m_X12_isShelf.2.2.2.2.1 4 = some (.invokestatic 46) := by decide +kernel
theorem cd_X12_isShelf_7 : ylk m_X12_isShelf.2.2.2.2.1 7 = some (.ireturn) := by decide +kernel
noncomputable abbrev yb_X12_isShelf (C : yC) : ySt → Option (Option Value × yM) := yrn m_X12_isShelf C
theorem en_X12_isShelf (n : Nat) (A : yM) (v0 : Int32) : ycall (n + 1) 229 [.int v0] A = (yi ((ycall n) 138 [.int v0, .int (0 : Int32), .int (7 : Int32)] A)).bind (fun z1 => if z1.1 = 0 ∨ z1.1 = 1 then some (some (.int z1.1), z1.2) else none) := (ybig_blk 6 _).trans (z_iload_n cd_X12_isShelf_0 (j := 0) rfl rfl (p := 1) rfl (zgo rfl (z_iconst cd_X12_isShelf_1 ki_0 (p := 2) rfl (zgo rfl (z_bipush cd_X12_isShelf_2 kb_7 (p := 4) rfl (zgo rfl (z_cs1 cd_X12_isShelf_4 (zs (key := 139) (by decide)) cl_X12_c139 rfl rfl rfl rfl (p := 7) rfl (fun _ => (zgo rfl (z_zret cd_X12_isShelf_7 rfl))))))))))
theorem cd_X12_wrongRow_0 : ylk m_X12_wrongRow.2.2.2.2.1 0 = some (.iload_n 1) := by decide +kernel
theorem cd_X12_wrongRow_1 : ylk m_X12_wrongRow.2.2.2.2.1 1 = some (.invokestatic 270) := by decide +kernel
theorem cd_X12_wrongRow_4 : ylk m_X12_wrongRow.2.2.2.2.1 4 = some (.ifCond .ne 7) := by decide +kernel
theorem cd_X12_wrongRow_7 : ylk m_X12_wrongRow.2.2.2.2.1 7 = some (.iconst (-1)) := by decide +kernel
theorem cd_X12_wrongRow_8 : ylk m_X12_wrongRow.2.2.2.2.1 8 = some (.goto 47) := by decide +kernel
theorem cd_X12_wrongRow_11 : ylk m_X12_wrongRow.2.2.2.2.1 11 = some (.aload_n 0) := by decide +kernel
theorem cd_X12_wrongRow_12 : ylk m_X12_wrongRow.2.2.2.2.1 12 = some (.getfield 28) := by decide +kernel
theorem cd_X12_wrongRow_15 : ylk m_X12_wrongRow.2.2.2.2.1 15 = some (.iload_n 1) := by decide +kernel
theorem cd_X12_wrongRow_16 : ylk m_X12_wrongRow.2.2.2.2.1 16 = some (.iaload) := by decide +kernel
theorem cd_X12_wrongRow_17 : ylk m_X12_wrongRow.2.2.2.2.1 17 = some (.ifCond .ne 8) := by decide +kernel
theorem cd_X12_wrongRow_20 : ylk m_X12_wrongRow.2.2.2.2.1 20 = some (.bipush (-11)) := by decide +kernel
theorem cd_X12_wrongRow_22 : ylk m_X12_wrongRow.2.2.2.2.1 22 = some (.goto 33) := by decide +kernel
theorem cd_X12_wrongRow_25 : ylk m_X12_wrongRow.2.2.2.2.1 25 = some (.aload_n 0) := by decide +kernel
theorem cd_X12_wrongRow_26 : ylk m_X12_wrongRow.2.2.2.2.1 26 = some (.getfield 28) := by decide +kernel
theorem cd_X12_wrongRow_29 : ylk m_X12_wrongRow.2.2.2.2.1 29 = some (.iload_n 1) := by decide +kernel
theorem cd_X12_wrongRow_30 : ylk m_X12_wrongRow.2.2.2.2.1 30 = some (.iaload) := by decide +kernel
theorem cd_X12_wrongRow_31 : ylk m_X12_wrongRow.2.2.2.2.1 31 = some (.iconst 2) := by decide +kernel
theorem cd_X12_wrongRow_32 : ylk m_X12_wrongRow.2.2.2.2.1 32 = some (.if_icmp .ne 17) := by decide +kernel
theorem cd_X12_wrongRow_35 : ylk m_X12_wrongRow.2.2.2.2.1 35 = some (.iload_n 2) := by decide +kernel
theorem cd_X12_wrongRow_36 : ylk m_X12_wrongRow.2.2.2.2.1 36 = some (.ifCond .lt 18) := by decide +kernel
theorem cd_X12_wrongRow_39 : ylk m_X12_wrongRow.2.2.2.2.1 39 = some (.aload_n 0) := by decide +kernel
theorem cd_X12_wrongRow_40 : ylk m_X12_wrongRow.2.2.2.2.1 40 = some (.getfield 37) := by decide +kernel
theorem cd_X12_wrongRow_43 : ylk m_X12_wrongRow.2.2.2.2.1 43 = some (.iload_n 1) := by decide +kernel
theorem cd_X12_wrongRow_44 : ylk m_X12_wrongRow.2.2.2.2.1 44 = some (.iaload) := by decide +kernel
theorem cd_X12_wrongRow_45 : ylk m_X12_wrongRow.2.2.2.2.1 45 = some (.iload_n 2) := by decide +kernel
theorem cd_X12_wrongRow_46 : ylk m_X12_wrongRow.2.2.2.2.1 46 = some (.if_icmp .eq 8) := by decide +kernel
theorem cd_X12_wrongRow_49 : ylk m_X12_wrongRow.2.2.2.2.1 49 = some (.bipush (-12)) := by decide +kernel
theorem cd_X12_wrongRow_51 : ylk m_X12_wrongRow.2.2.2.2.1 51 = some (.goto 4) := by decide +kernel
theorem cd_X12_wrongRow_54 : ylk m_X12_wrongRow.2.2.2.2.1 54 = some (.iconst 0) := by decide +kernel
theorem cd_X12_wrongRow_55 : ylk m_X12_wrongRow.2.2.2.2.1 55 = some (.ireturn) := by decide +kernel
noncomputable abbrev yb_X12_wrongRow (C : yC) : ySt → Option (Option Value × yM) := yrn m_X12_wrongRow C
theorem en_X12_wrongRow (n : Nat) (A : yM) (v0 : Nat) (v1 : Int32) (v2 : Int32) : ycall (n + 1) 230 [.ref v0, .int v1, .int v2] A = (yi ((ycall n) 229 [.int v1] A)).bind (fun z1 => if z1.1 = 0 then (some (some (.int (-1 : Int32)), z1.2)) else (ygR z1.2 v0 11 11 (fun a2 => yrd z1.2 a2 v1 (fun x3 => if x3 = 0 then (some (some (.int (-11 : Int32)), z1.2)) else (ygR z1.2 v0 11 11 (fun a4 => yrd z1.2 a4 v1 (fun x5 => if x5 = (2 : Int32) then (if v2 < 0 then (some (some (.int (0 : Int32)), z1.2)) else (ygR z1.2 v0 11 14 (fun a6 => yrd z1.2 a6 v1 (fun x7 => if x7 = v2 then (some (some (.int (0 : Int32)), z1.2)) else (some (some (.int (-12 : Int32)), z1.2)))))) else (some (some (.int (-12 : Int32)), z1.2))))))))) := (ybig_blk 26 _).trans (z_iload_n cd_X12_wrongRow_0 (j := 1) rfl rfl (p := 1) rfl (zgo rfl (z_cs1 cd_X12_wrongRow_1 (zs (key := 811) (by decide)) cl_X12_c811 rfl rfl rfl rfl (p := 4) rfl (fun _ => (zgo rfl (z_if_ne cd_X12_wrongRow_4 (p := 11) rfl (p2 := 7) rfl (zgo rfl (z_iconst cd_X12_wrongRow_7 ki_m1 (p := 8) rfl (zgo rfl (z_goto cd_X12_wrongRow_8 (p := 55) rfl (zgo rfl (z_iret cd_X12_wrongRow_55 rfl)))))) (zgo rfl (z_aload_n cd_X12_wrongRow_11 (j := 0) rfl rfl (p := 12) rfl (zgo rfl (z_getR cd_X12_wrongRow_12 fd_X12_28 (p := 15) rfl (fun _ => (zgo rfl (z_iload_n cd_X12_wrongRow_15 (j := 1) rfl rfl (p := 16) rfl (zgo rfl (z_iaload cd_X12_wrongRow_16 (p := 17) rfl (fun _ => (zgo rfl (z_if_ne cd_X12_wrongRow_17 (p := 25) rfl (p2 := 20) rfl (zgo rfl (z_bipush cd_X12_wrongRow_20 kb_m11 (p := 22) rfl (zgo rfl (z_goto cd_X12_wrongRow_22 (p := 55) rfl (zgo rfl (z_iret cd_X12_wrongRow_55 rfl)))))) (zgo rfl (z_aload_n cd_X12_wrongRow_25 (j := 0) rfl rfl (p := 26) rfl (zgo rfl (z_getR cd_X12_wrongRow_26 fd_X12_28 (p := 29) rfl (fun _ => (zgo rfl (z_iload_n cd_X12_wrongRow_29 (j := 1) rfl rfl (p := 30) rfl (zgo rfl (z_iaload cd_X12_wrongRow_30 (p := 31) rfl (fun _ => (zgo rfl (z_iconst cd_X12_wrongRow_31 ki_2 (p := 32) rfl (zgo rfl (z_ic_ne cd_X12_wrongRow_32 (p := 49) rfl (p2 := 35) rfl (zgo rfl (z_iload_n cd_X12_wrongRow_35 (j := 2) rfl rfl (p := 36) rfl (zgo rfl (z_if_lt cd_X12_wrongRow_36 (p := 54) rfl (p2 := 39) rfl (zgo rfl (z_iconst cd_X12_wrongRow_54 ki_0 (p := 55) rfl (zgo rfl (z_iret cd_X12_wrongRow_55 rfl)))) (zgo rfl (z_aload_n cd_X12_wrongRow_39 (j := 0) rfl rfl (p := 40) rfl (zgo rfl (z_getR cd_X12_wrongRow_40 fd_X12_37 (p := 43) rfl (fun _ => (zgo rfl (z_iload_n cd_X12_wrongRow_43 (j := 1) rfl rfl (p := 44) rfl (zgo rfl (z_iaload cd_X12_wrongRow_44 (p := 45) rfl (fun _ => (zgo rfl (z_iload_n cd_X12_wrongRow_45 (j := 2) rfl rfl (p := 46) rfl (zgo rfl (z_ic_eq cd_X12_wrongRow_46 (p := 54) rfl (p2 := 49) rfl (zgo rfl (z_iconst cd_X12_wrongRow_54 ki_0 (p := 55) rfl (zgo rfl (z_iret cd_X12_wrongRow_55 rfl)))) (zgo rfl (z_bipush cd_X12_wrongRow_49 kb_m12 (p := 51) rfl (zgo rfl (z_goto cd_X12_wrongRow_51 (p := 55) rfl (zgo rfl (z_iret cd_X12_wrongRow_55 rfl)))))))))))))))))))))))) (zgo rfl (z_bipush cd_X12_wrongRow_49 kb_m12 (p := 51) rfl (zgo rfl (z_goto cd_X12_wrongRow_51 (p := 55) rfl (zgo rfl (z_iret cd_X12_wrongRow_55 rfl))))))))))))))))))))))))))))))))))))))
theorem cd_X12_wrongKept_0 : ylk m_X12_wrongKept.2.2.2.2.1 0 = some (.iload_n 1) := by decide +kernel
theorem cd_X12_wrongKept_1 : ylk m_X12_wrongKept.2.2.2.2.1 1 = some (.invokestatic 270) := by decide +kernel
theorem cd_X12_wrongKept_4 : ylk m_X12_wrongKept.2.2.2.2.1 4 = some (.ifCond .ne 7) := by decide +kernel
theorem cd_X12_wrongKept_7 : ylk m_X12_wrongKept.2.2.2.2.1 7 = some (.iconst (-1)) := by decide +kernel
theorem cd_X12_wrongKept_8 : ylk m_X12_wrongKept.2.2.2.2.1 8 = some (.goto 33) := by decide +kernel
theorem cd_X12_wrongKept_11 : ylk m_X12_wrongKept.2.2.2.2.1 11 = some (.aload_n 0) := by decide +kernel
theorem cd_X12_wrongKept_12 : ylk m_X12_wrongKept.2.2.2.2.1 12 = some (.getfield 28) := by decide +kernel
theorem cd_X12_wrongKept_15 : ylk m_X12_wrongKept.2.2.2.2.1 15 = some (.iload_n 1) := by decide +kernel
theorem cd_X12_wrongKept_16 : ylk m_X12_wrongKept.2.2.2.2.1 16 = some (.iaload) := by decide +kernel
theorem cd_X12_wrongKept_17 : ylk m_X12_wrongKept.2.2.2.2.1 17 = some (.ifCond .ne 8) := by decide +kernel
theorem cd_X12_wrongKept_20 : ylk m_X12_wrongKept.2.2.2.2.1 20 = some (.bipush (-11)) := by decide +kernel
theorem cd_X12_wrongKept_22 : ylk m_X12_wrongKept.2.2.2.2.1 22 = some (.goto 19) := by decide +kernel
theorem cd_X12_wrongKept_25 : ylk m_X12_wrongKept.2.2.2.2.1 25 = some (.aload_n 0) := by decide +kernel
theorem cd_X12_wrongKept_26 : ylk m_X12_wrongKept.2.2.2.2.1 26 = some (.getfield 28) := by decide +kernel
theorem cd_X12_wrongKept_29 : ylk m_X12_wrongKept.2.2.2.2.1 29 = some (.iload_n 1) := by decide +kernel
theorem cd_X12_wrongKept_30 : ylk m_X12_wrongKept.2.2.2.2.1 30 = some (.iaload) := by decide +kernel
theorem cd_X12_wrongKept_31 : ylk m_X12_wrongKept.2.2.2.2.1 31 = some (.iconst 2) := by decide +kernel
theorem cd_X12_wrongKept_32 : ylk m_X12_wrongKept.2.2.2.2.1 32 = some (.if_icmp .ne 8) := by decide +kernel
theorem cd_X12_wrongKept_35 : ylk m_X12_wrongKept.2.2.2.2.1 35 = some (.bipush (-12)) := by decide +kernel
theorem cd_X12_wrongKept_37 : ylk m_X12_wrongKept.2.2.2.2.1 37 = some (.goto 4) := by decide +kernel
theorem cd_X12_wrongKept_40 : ylk m_X12_wrongKept.2.2.2.2.1 40 = some (.iconst 0) := by decide +kernel
theorem cd_X12_wrongKept_41 : ylk m_X12_wrongKept.2.2.2.2.1 41 = some (.ireturn) := by decide +kernel
noncomputable abbrev yb_X12_wrongKept (C : yC) : ySt → Option (Option Value × yM) := yrn m_X12_wrongKept C
theorem en_X12_wrongKept (n : Nat) (A : yM) (v0 : Nat) (v1 : Int32) : ycall (n + 1) 231 [.ref v0, .int v1] A = (yi ((ycall n) 229 [.int v1] A)).bind (fun z1 => if z1.1 = 0 then (some (some (.int (-1 : Int32)), z1.2)) else (ygR z1.2 v0 11 11 (fun a2 => yrd z1.2 a2 v1 (fun x3 => if x3 = 0 then (some (some (.int (-11 : Int32)), z1.2)) else (ygR z1.2 v0 11 11 (fun a4 => yrd z1.2 a4 v1 (fun x5 => if x5 = (2 : Int32) then (some (some (.int (-12 : Int32)), z1.2)) else (some (some (.int (0 : Int32)), z1.2))))))))) := (ybig_blk 18 _).trans (z_iload_n cd_X12_wrongKept_0 (j := 1) rfl rfl (p := 1) rfl (zgo rfl (z_cs1 cd_X12_wrongKept_1 (zs (key := 811) (by decide)) cl_X12_c811 rfl rfl rfl rfl (p := 4) rfl (fun _ => (zgo rfl (z_if_ne cd_X12_wrongKept_4 (p := 11) rfl (p2 := 7) rfl (zgo rfl (z_iconst cd_X12_wrongKept_7 ki_m1 (p := 8) rfl (zgo rfl (z_goto cd_X12_wrongKept_8 (p := 41) rfl (zgo rfl (z_iret cd_X12_wrongKept_41 rfl)))))) (zgo rfl (z_aload_n cd_X12_wrongKept_11 (j := 0) rfl rfl (p := 12) rfl (zgo rfl (z_getR cd_X12_wrongKept_12 fd_X12_28 (p := 15) rfl (fun _ => (zgo rfl (z_iload_n cd_X12_wrongKept_15 (j := 1) rfl rfl (p := 16) rfl (zgo rfl (z_iaload cd_X12_wrongKept_16 (p := 17) rfl (fun _ => (zgo rfl (z_if_ne cd_X12_wrongKept_17 (p := 25) rfl (p2 := 20) rfl (zgo rfl (z_bipush cd_X12_wrongKept_20 kb_m11 (p := 22) rfl (zgo rfl (z_goto cd_X12_wrongKept_22 (p := 41) rfl (zgo rfl (z_iret cd_X12_wrongKept_41 rfl)))))) (zgo rfl (z_aload_n cd_X12_wrongKept_25 (j := 0) rfl rfl (p := 26) rfl (zgo rfl (z_getR cd_X12_wrongKept_26 fd_X12_28 (p := 29) rfl (fun _ => (zgo rfl (z_iload_n cd_X12_wrongKept_29 (j := 1) rfl rfl (p := 30) rfl (zgo rfl (z_iaload cd_X12_wrongKept_30 (p := 31) rfl (fun _ => (zgo rfl (z_iconst cd_X12_wrongKept_31 ki_2 (p := 32) rfl (zgo rfl (z_ic_ne cd_X12_wrongKept_32 (p := 40) rfl (p2 := 35) rfl (zgo rfl (z_bipush cd_X12_wrongKept_35 kb_m12 (p := 37) rfl (zgo rfl (z_goto cd_X12_wrongKept_37 (p := 41) rfl (zgo rfl (z_iret cd_X12_wrongKept_41 rfl)))))) (zgo rfl (z_iconst cd_X12_wrongKept_40 ki_0 (p := 41) rfl (zgo rfl (z_iret cd_X12_wrongKept_41 rfl))))))))))))))))))))))))))))))))))))
theorem cd_X12_keep_0 : ylk m_X12_keep.2.2.2.2.1 0 = some (.iload_n 1) := by decide +kernel
theorem cd_X12_keep_1 : ylk m_X12_keep.2.2.2.2.1 1 = some (.invokestatic 270) := by decide +kernel
theorem cd_X12_keep_4 : ylk m_X12_keep.2.2.2.2.1 4 = some (.ifCond .eq 38) := by decide +kernel
theorem cd_X12_keep_7 : ylk m_X12_keep.2.2.2.2.1 7 = some (.iload_n 2) := by decide +kernel
theorem cd_X12_keep_8 : ylk m_X12_keep.2.2.2.2.1 8 = some (.iconst 0) := by decide +kernel
theorem cd_X12_keep_9 : ylk m_X12_keep.2.2.2.2.1 9 = some (.iconst 1) := by decide +kernel
theorem cd_X12_keep_10 : ylk m_X12_keep.2.2.2.2.1 10 = some (.invokestatic 46) := by decide +kernel
theorem cd_X12_keep_13 : ylk m_X12_keep.2.2.2.2.1 13 = some (.ifCond .eq 29) := by decide +kernel
theorem cd_X12_keep_16 : ylk m_X12_keep.2.2.2.2.1 16 = some (.iload_n 2) := by decide +kernel
theorem cd_X12_keep_17 : ylk m_X12_keep.2.2.2.2.1 17 = some (.iconst 1) := by decide +kernel
theorem cd_X12_keep_18 : ylk m_X12_keep.2.2.2.2.1 18 = some (.if_icmp .ne 26) := by decide +kernel
theorem cd_X12_keep_21 : ylk m_X12_keep.2.2.2.2.1 21 = some (.iload_n 3) := by decide +kernel
theorem cd_X12_keep_22 : ylk m_X12_keep.2.2.2.2.1 22 = some (.iconst 0) := by decide +kernel
theorem cd_X12_keep_23 : ylk m_X12_keep.2.2.2.2.1 23 = some (.bipush 7) := by decide +kernel
theorem cd_X12_keep_25 : ylk m_X12_keep.2.2.2.2.1 25 = some (.invokestatic 46) := by decide +kernel
theorem cd_X12_keep_28 : ylk m_X12_keep.2.2.2.2.1 28 = some (.ifCond .eq 14) := by decide +kernel
theorem cd_X12_keep_31 : ylk m_X12_keep.2.2.2.2.1 31 = some (.iload 4) := by decide +kernel
theorem cd_X12_keep_33 : ylk m_X12_keep.2.2.2.2.1 33 = some (.iconst 0) := by decide +kernel
theorem cd_X12_keep_34 : ylk m_X12_keep.2.2.2.2.1 34 = some (.bipush 9) := by decide +kernel
theorem cd_X12_keep_36 : ylk m_X12_keep.2.2.2.2.1 36 = some (.invokestatic 46) := by decide +kernel
theorem cd_X12_keep_39 : ylk m_X12_keep.2.2.2.2.1 39 = some (.ifCond .ne 5) := by decide +kernel
theorem cd_X12_keep_42 : ylk m_X12_keep.2.2.2.2.1 42 = some (.iconst (-1)) := by decide +kernel
theorem cd_X12_keep_43 : ylk m_X12_keep.2.2.2.2.1 43 = some (.ireturn) := by decide +kernel
theorem cd_X12_keep_44 : ylk m_X12_keep.2.2.2.2.1 44 = some (.aload_n 0) := by decide +kernel
theorem cd_X12_keep_45 : ylk m_X12_keep.2.2.2.2.1 45 = some (.getfield 28) := by decide +kernel
theorem cd_X12_keep_48 : ylk m_X12_keep.2.2.2.2.1 48 = some (.iload_n 1) := by decide +kernel
theorem cd_X12_keep_49 : ylk m_X12_keep.2.2.2.2.1 49 = some (.iload_n 2) := by decide +kernel
theorem cd_X12_keep_50 : ylk m_X12_keep.2.2.2.2.1 50 = some (.iastore) := by decide +kernel
theorem cd_X12_keep_51 : ylk m_X12_keep.2.2.2.2.1 51 = some (.aload_n 0) := by decide +kernel
theorem cd_X12_keep_52 : ylk m_X12_keep.2.2.2.2.1 52 = some (.getfield 31) := by decide +kernel
theorem cd_X12_keep_55 : ylk m_X12_keep.2.2.2.2.1 55 = some (.iload_n 1) := by decide +kernel
theorem cd_X12_keep_56 : ylk m_X12_keep.2.2.2.2.1 56 = some (.iload_n 3) := by decide +kernel
theorem cd_X12_keep_57 : ylk m_X12_keep.2.2.2.2.1 57 = some (.iastore) := by decide +kernel
theorem cd_X12_keep_58 : ylk m_X12_keep.2.2.2.2.1 58 = some (.aload_n 0) := by decide +kernel
theorem cd_X12_keep_59 : ylk m_X12_keep.2.2.2.2.1 59 = some (.getfield 34) := by decide +kernel
theorem cd_X12_keep_62 : ylk m_X12_keep.2.2.2.2.1 62 = some (.iload_n 1) := by decide +kernel
theorem cd_X12_keep_63 : ylk m_X12_keep.2.2.2.2.1 63 = some (.iload 4) := by decide +kernel
theorem cd_X12_keep_65 : ylk m_X12_keep.2.2.2.2.1 65 = some (.iastore) := by decide +kernel
theorem cd_X12_keep_66 : ylk m_X12_keep.2.2.2.2.1 66 = some (.iconst 0) := by decide +kernel
theorem cd_X12_keep_67 : ylk m_X12_keep.2.2.2.2.1 67 = some (.ireturn) := by decide +kernel
noncomputable abbrev yb_X12_keep (C : yC) : ySt → Option (Option Value × yM) := yrn m_X12_keep C
theorem en_X12_keep (n : Nat) (A : yM) (v0 : Nat) (v1 : Int32) (v2 : Int32) (v3 : Int32) (v4 : Int32) : ycall (n + 1) 232 [.ref v0, .int v1, .int v2, .int v3, .int v4] A = (yi ((ycall n) 229 [.int v1] A)).bind (fun z1 => if z1.1 = 0 then (some (some (.int (-1 : Int32)), z1.2)) else ((yi ((ycall n) 138 [.int v2, .int (0 : Int32), .int (1 : Int32)] z1.2)).bind (fun z2 => if z2.1 = 0 then (some (some (.int (-1 : Int32)), z2.2)) else (if v2 = (1 : Int32) then ((yi ((ycall n) 138 [.int v3, .int (0 : Int32), .int (7 : Int32)] z2.2)).bind (fun z3 => if z3.1 = 0 then (some (some (.int (-1 : Int32)), z3.2)) else ((yi ((ycall n) 138 [.int v4, .int (0 : Int32), .int (9 : Int32)] z3.2)).bind (fun z4 => if z4.1 = 0 then (some (some (.int (-1 : Int32)), z4.2)) else (yb_X12_keep (ycall n) (44, [some (.ref v0), some (.int v1), some (.int v2), some (.int v3), some (.int v4)], [], z4.2)))))) else (yb_X12_keep (ycall n) (44, [some (.ref v0), some (.int v1), some (.int v2), some (.int v3), some (.int v4)], [], z2.2)))))) := (ybig_blk 24 _).trans (z_iload_n cd_X12_keep_0 (j := 1) rfl rfl (p := 1) rfl (zgo rfl (z_cs1 cd_X12_keep_1 (zs (key := 811) (by decide)) cl_X12_c811 rfl rfl rfl rfl (p := 4) rfl (fun _ => (zgo rfl (z_if_eq cd_X12_keep_4 (p := 42) rfl (p2 := 7) rfl (zgo rfl (z_iconst cd_X12_keep_42 ki_m1 (p := 43) rfl (zgo rfl (z_iret cd_X12_keep_43 rfl)))) (zgo rfl (z_iload_n cd_X12_keep_7 (j := 2) rfl rfl (p := 8) rfl (zgo rfl (z_iconst cd_X12_keep_8 ki_0 (p := 9) rfl (zgo rfl (z_iconst cd_X12_keep_9 ki_1 (p := 10) rfl (zgo rfl (z_cs1 cd_X12_keep_10 (zs (key := 139) (by decide)) cl_X12_c139 rfl rfl rfl rfl (p := 13) rfl (fun _ => (zgo rfl (z_if_eq cd_X12_keep_13 (p := 42) rfl (p2 := 16) rfl (zgo rfl (z_iconst cd_X12_keep_42 ki_m1 (p := 43) rfl (zgo rfl (z_iret cd_X12_keep_43 rfl)))) (zgo rfl (z_iload_n cd_X12_keep_16 (j := 2) rfl rfl (p := 17) rfl (zgo rfl (z_iconst cd_X12_keep_17 ki_1 (p := 18) rfl (zgo rfl (z_ic_ne cd_X12_keep_18 (p := 44) rfl (p2 := 21) rfl (zgo rfl (z_iload_n cd_X12_keep_21 (j := 3) rfl rfl (p := 22) rfl (zgo rfl (z_iconst cd_X12_keep_22 ki_0 (p := 23) rfl (zgo rfl (z_bipush cd_X12_keep_23 kb_7 (p := 25) rfl (zgo rfl (z_cs1 cd_X12_keep_25 (zs (key := 139) (by decide)) cl_X12_c139 rfl rfl rfl rfl (p := 28) rfl (fun _ => (zgo rfl (z_if_eq cd_X12_keep_28 (p := 42) rfl (p2 := 31) rfl (zgo rfl (z_iconst cd_X12_keep_42 ki_m1 (p := 43) rfl (zgo rfl (z_iret cd_X12_keep_43 rfl)))) (zgo rfl (z_iload cd_X12_keep_31 rfl (p := 33) rfl (zgo rfl (z_iconst cd_X12_keep_33 ki_0 (p := 34) rfl (zgo rfl (z_bipush cd_X12_keep_34 kb_9 (p := 36) rfl (zgo rfl (z_cs1 cd_X12_keep_36 (zs (key := 139) (by decide)) cl_X12_c139 rfl rfl rfl rfl (p := 39) rfl (fun _ => (zgo rfl (z_if_ne cd_X12_keep_39 (p := 44) rfl (p2 := 42) rfl (zgo rfl (z_iconst cd_X12_keep_42 ki_m1 (p := 43) rfl (zgo rfl (z_iret cd_X12_keep_43 rfl)))) (zcut (p := 44) rfl rfl))))))))))))))))))))))) (zcut (p := 44) rfl rfl))))))))))))))))))))))))
theorem bk_X12_keep_44 (C : yC) (A : yM) (v0 : Nat) (v1 : Int32) (v2 : Int32) (v3 : Int32) (v4 : Int32) : yb_X12_keep C (44, [some (.ref v0), some (.int v1), some (.int v2), some (.int v3), some (.int v4)], [], A) = ygR A v0 11 11 (fun a1 => ywr A a1 v1 v2 (fun A2 => ygR A2 v0 11 12 (fun a3 => ywr A2 a3 v1 v3 (fun A4 => ygR A4 v0 11 13 (fun a5 => ywr A4 a5 v1 v4 (fun A6 => some (some (.int (0 : Int32)), A6))))))) := (ybig_blk 18 _).trans (z_aload_n cd_X12_keep_44 (j := 0) rfl rfl (p := 45) rfl (zgo rfl (z_getR cd_X12_keep_45 fd_X12_28 (p := 48) rfl (fun _ => (zgo rfl (z_iload_n cd_X12_keep_48 (j := 1) rfl rfl (p := 49) rfl (zgo rfl (z_iload_n cd_X12_keep_49 (j := 2) rfl rfl (p := 50) rfl (zgo rfl (z_iastore cd_X12_keep_50 (p := 51) rfl (fun _ => (zgo rfl (z_aload_n cd_X12_keep_51 (j := 0) rfl rfl (p := 52) rfl (zgo rfl (z_getR cd_X12_keep_52 fd_X12_31 (p := 55) rfl (fun _ => (zgo rfl (z_iload_n cd_X12_keep_55 (j := 1) rfl rfl (p := 56) rfl (zgo rfl (z_iload_n cd_X12_keep_56 (j := 3) rfl rfl (p := 57) rfl (zgo rfl (z_iastore cd_X12_keep_57 (p := 58) rfl (fun _ => (zgo rfl (z_aload_n cd_X12_keep_58 (j := 0) rfl rfl (p := 59) rfl (zgo rfl (z_getR cd_X12_keep_59 fd_X12_34 (p := 62) rfl (fun _ => (zgo rfl (z_iload_n cd_X12_keep_62 (j := 1) rfl rfl (p := 63) rfl (zgo rfl (z_iload cd_X12_keep_63 rfl (p := 65) rfl (zgo rfl (z_iastore cd_X12_keep_65 (p := 66) rfl (fun _ => (zgo rfl (z_iconst cd_X12_keep_66 ki_0 (p := 67) rfl (zgo rfl (z_iret cd_X12_keep_67 rfl)))))))))))))))))))))))))))))))))))))))
theorem cd_X12_row_0 : ylk m_X12_row.2.2.2.2.1 0 = some (.iload_n 1) := by decide +kernel
theorem cd_X12_row_1 : ylk m_X12_row.2.2.2.2.1 1 = some (.invokestatic 270) := by decide +kernel
theorem cd_X12_row_4 : ylk m_X12_row.2.2.2.2.1 4 = some (.ifCond .eq 18) := by decide +kernel
theorem cd_X12_row_7 : ylk m_X12_row.2.2.2.2.1 7 = some (.iload_n 2) := by decide +kernel
theorem cd_X12_row_8 : ylk m_X12_row.2.2.2.2.1 8 = some (.iconst 0) := by decide +kernel
theorem cd_X12_row_9 : ylk m_X12_row.2.2.2.2.1 9 = some (.iconst 2) := by decide +kernel
theorem cd_X12_row_10 : ylk m_X12_row.2.2.2.2.1 10 = some (.invokestatic 46) := by decide +kernel
theorem cd_X12_row_13 : ylk m_X12_row.2.2.2.2.1 13 = some (.ifCond .eq 9) := by decide +kernel
theorem cd_X12_row_16 : ylk m_X12_row.2.2.2.2.1 16 = some (.iload_n 3) := by decide +kernel
theorem cd_X12_row_17 : ylk m_X12_row.2.2.2.2.1 17 = some (.bipush 100) := by decide +kernel
theorem cd_X12_row_19 : ylk m_X12_row.2.2.2.2.1 19 = some (.if_icmp .le 5) := by decide +kernel
theorem cd_X12_row_22 : ylk m_X12_row.2.2.2.2.1 22 = some (.iconst (-1)) := by decide +kernel
theorem cd_X12_row_23 : ylk m_X12_row.2.2.2.2.1 23 = some (.ireturn) := by decide +kernel
theorem cd_X12_row_24 : ylk m_X12_row.2.2.2.2.1 24 = some (.iload_n 3) := by decide +kernel
theorem cd_X12_row_25 : ylk m_X12_row.2.2.2.2.1 25 = some (.ifCond .ge 6) := by decide +kernel
theorem cd_X12_row_28 : ylk m_X12_row.2.2.2.2.1 28 = some (.bipush (-14)) := by decide +kernel
theorem cd_X12_row_30 : ylk m_X12_row.2.2.2.2.1 30 = some (.ireturn) := by decide +kernel
theorem cd_X12_row_31 : ylk m_X12_row.2.2.2.2.1 31 = some (.aload_n 0) := by decide +kernel
theorem cd_X12_row_32 : ylk m_X12_row.2.2.2.2.1 32 = some (.getfield 28) := by decide +kernel
theorem cd_X12_row_35 : ylk m_X12_row.2.2.2.2.1 35 = some (.iload_n 1) := by decide +kernel
theorem cd_X12_row_36 : ylk m_X12_row.2.2.2.2.1 36 = some (.iconst 2) := by decide +kernel
theorem cd_X12_row_37 : ylk m_X12_row.2.2.2.2.1 37 = some (.iastore) := by decide +kernel
theorem cd_X12_row_38 : ylk m_X12_row.2.2.2.2.1 38 = some (.aload_n 0) := by decide +kernel
theorem cd_X12_row_39 : ylk m_X12_row.2.2.2.2.1 39 = some (.getfield 37) := by decide +kernel
theorem cd_X12_row_42 : ylk m_X12_row.2.2.2.2.1 42 = some (.iload_n 1) := by decide +kernel
theorem cd_X12_row_43 : ylk m_X12_row.2.2.2.2.1 43 = some (.iload_n 2) := by decide +kernel
theorem cd_X12_row_44 : ylk m_X12_row.2.2.2.2.1 44 = some (.iastore) := by decide +kernel
theorem cd_X12_row_45 : ylk m_X12_row.2.2.2.2.1 45 = some (.aload_n 0) := by decide +kernel
theorem cd_X12_row_46 : ylk m_X12_row.2.2.2.2.1 46 = some (.getfield 40) := by decide +kernel
theorem cd_X12_row_49 : ylk m_X12_row.2.2.2.2.1 49 = some (.iload_n 1) := by decide +kernel
theorem cd_X12_row_50 : ylk m_X12_row.2.2.2.2.1 50 = some (.iload_n 3) := by decide +kernel
theorem cd_X12_row_51 : ylk m_X12_row.2.2.2.2.1 51 = some (.iastore) := by decide +kernel
theorem cd_X12_row_52 : ylk m_X12_row.2.2.2.2.1 52 = some (.iconst 0) := by decide +kernel
theorem cd_X12_row_53 : ylk m_X12_row.2.2.2.2.1 53 = some (.istore 4) := by decide +kernel
theorem cd_X12_row_55 : ylk m_X12_row.2.2.2.2.1 55 = some (.iload 4) := by decide +kernel
theorem cd_X12_row_57 : ylk m_X12_row.2.2.2.2.1 57 = some (.bipush 100) := by decide +kernel
theorem cd_X12_row_59 : ylk m_X12_row.2.2.2.2.1 59 = some (.if_icmp .ge 22) := by decide +kernel
theorem cd_X12_row_62 : ylk m_X12_row.2.2.2.2.1 62 = some (.aload_n 0) := by decide +kernel
theorem cd_X12_row_63 : ylk m_X12_row.2.2.2.2.1 63 = some (.getfield 43) := by decide +kernel
theorem cd_X12_row_66 : ylk m_X12_row.2.2.2.2.1 66 = some (.bipush 100) := by decide +kernel
theorem cd_X12_row_68 : ylk m_X12_row.2.2.2.2.1 68 = some (.iload_n 1) := by decide +kernel
theorem cd_X12_row_69 : ylk m_X12_row.2.2.2.2.1 69 = some (.imul) := by decide +kernel
theorem cd_X12_row_70 : ylk m_X12_row.2.2.2.2.1 70 = some (.iload 4) := by decide +kernel
theorem cd_X12_row_72 : ylk m_X12_row.2.2.2.2.1 72 = some (.iadd) := by decide +kernel
theorem cd_X12_row_73 : ylk m_X12_row.2.2.2.2.1 73 = some (.iconst 0) := by decide +kernel
theorem cd_X12_row_74 : ylk m_X12_row.2.2.2.2.1 74 = some (.iastore) := by decide +kernel
theorem cd_X12_row_75 : ylk m_X12_row.2.2.2.2.1 75 = some (.iinc 4 1) := by decide +kernel
theorem cd_X12_row_78 : ylk m_X12_row.2.2.2.2.1 78 = some (.goto (-23)) := by decide +kernel
theorem cd_X12_row_81 : ylk m_X12_row.2.2.2.2.1 81 = some (.iconst 0) := by decide +kernel
theorem cd_X12_row_82 : ylk m_X12_row.2.2.2.2.1 82 = some (.ireturn) := by decide +kernel
noncomputable abbrev yb_X12_row (C : yC) : ySt → Option (Option Value × yM) := yrn m_X12_row C
theorem en_X12_row (n : Nat) (A : yM) (v0 : Nat) (v1 : Int32) (v2 : Int32) (v3 : Int32) : ycall (n + 1) 233 [.ref v0, .int v1, .int v2, .int v3] A = (yi ((ycall n) 229 [.int v1] A)).bind (fun z1 => if z1.1 = 0 then (some (some (.int (-1 : Int32)), z1.2)) else ((yi ((ycall n) 138 [.int v2, .int (0 : Int32), .int (2 : Int32)] z1.2)).bind (fun z2 => if z2.1 = 0 then (some (some (.int (-1 : Int32)), z2.2)) else (if v3 ≤ (100 : Int32) then (if 0 ≤ v3 then (ygR z2.2 v0 11 11 (fun a3 => ywr z2.2 a3 v1 (2 : Int32) (fun A4 => ygR A4 v0 11 14 (fun a5 => ywr A4 a5 v1 v2 (fun A6 => ygR A6 v0 11 15 (fun a7 => ywr A6 a7 v1 v3 (fun A8 => yb_X12_row (ycall n) (55, [some (.ref v0), some (.int v1), none, none, some (.int (0 : Int32))], [], A8)))))))) else (some (some (.int (-14 : Int32)), z2.2))) else (some (some (.int (-1 : Int32)), z2.2)))))) := (ybig_blk 31 _).trans (z_iload_n cd_X12_row_0 (j := 1) rfl rfl (p := 1) rfl (zgo rfl (z_cs1 cd_X12_row_1 (zs (key := 811) (by decide)) cl_X12_c811 rfl rfl rfl rfl (p := 4) rfl (fun _ => (zgo rfl (z_if_eq cd_X12_row_4 (p := 22) rfl (p2 := 7) rfl (zgo rfl (z_iconst cd_X12_row_22 ki_m1 (p := 23) rfl (zgo rfl (z_iret cd_X12_row_23 rfl)))) (zgo rfl (z_iload_n cd_X12_row_7 (j := 2) rfl rfl (p := 8) rfl (zgo rfl (z_iconst cd_X12_row_8 ki_0 (p := 9) rfl (zgo rfl (z_iconst cd_X12_row_9 ki_2 (p := 10) rfl (zgo rfl (z_cs1 cd_X12_row_10 (zs (key := 139) (by decide)) cl_X12_c139 rfl rfl rfl rfl (p := 13) rfl (fun _ => (zgo rfl (z_if_eq cd_X12_row_13 (p := 22) rfl (p2 := 16) rfl (zgo rfl (z_iconst cd_X12_row_22 ki_m1 (p := 23) rfl (zgo rfl (z_iret cd_X12_row_23 rfl)))) (zgo rfl (z_iload_n cd_X12_row_16 (j := 3) rfl rfl (p := 17) rfl (zgo rfl (z_bipush cd_X12_row_17 kb_100 (p := 19) rfl (zgo rfl (z_ic_le cd_X12_row_19 (p := 24) rfl (p2 := 22) rfl (zgo rfl (z_iload_n cd_X12_row_24 (j := 3) rfl rfl (p := 25) rfl (zgo rfl (z_if_ge cd_X12_row_25 (p := 31) rfl (p2 := 28) rfl (zgo rfl (z_aload_n cd_X12_row_31 (j := 0) rfl rfl (p := 32) rfl (zgo rfl (z_getR cd_X12_row_32 fd_X12_28 (p := 35) rfl (fun _ => (zgo rfl (z_iload_n cd_X12_row_35 (j := 1) rfl rfl (p := 36) rfl (zgo rfl (z_iconst cd_X12_row_36 ki_2 (p := 37) rfl (zgo rfl (z_iastore cd_X12_row_37 (p := 38) rfl (fun _ => (zgo rfl (z_aload_n cd_X12_row_38 (j := 0) rfl rfl (p := 39) rfl (zgo rfl (z_getR cd_X12_row_39 fd_X12_37 (p := 42) rfl (fun _ => (zgo rfl (z_iload_n cd_X12_row_42 (j := 1) rfl rfl (p := 43) rfl (zgo rfl (z_iload_n cd_X12_row_43 (j := 2) rfl rfl (p := 44) rfl (zgo rfl (z_iastore cd_X12_row_44 (p := 45) rfl (fun _ => (zgo rfl (z_aload_n cd_X12_row_45 (j := 0) rfl rfl (p := 46) rfl (zgo rfl (z_getR cd_X12_row_46 fd_X12_40 (p := 49) rfl (fun _ => (zgo rfl (z_iload_n cd_X12_row_49 (j := 1) rfl rfl (p := 50) rfl (zgo rfl (z_iload_n cd_X12_row_50 (j := 3) rfl rfl (p := 51) rfl (zgo rfl (z_iastore cd_X12_row_51 (p := 52) rfl (fun _ => (zgo rfl (z_iconst cd_X12_row_52 ki_0 (p := 53) rfl (zgo rfl (z_istore cd_X12_row_53 rfl (p := 55) rfl (zcut (p := 55) rfl rfl))))))))))))))))))))))))))))))))))))))))) (zgo rfl (z_bipush cd_X12_row_28 kb_m14 (p := 30) rfl (zgo rfl (z_iret cd_X12_row_30 rfl)))))))) (zgo rfl (z_iconst cd_X12_row_22 ki_m1 (p := 23) rfl (zgo rfl (z_iret cd_X12_row_23 rfl)))))))))))))))))))))))))))
theorem bk_X12_row_55 (C : yC) (A : yM) (v0 : Nat) (v1 : Int32) (v4 : Int32) : yb_X12_row C (55, [some (.ref v0), some (.int v1), none, none, some (.int v4)], [], A) = if (100 : Int32) ≤ v4 then (some (some (.int (0 : Int32)), A)) else (ygR A v0 11 16 (fun a1 => ywr A a1 (((100 : Int32) * v1) + v4) (0 : Int32) (fun A2 => yb_X12_row C (55, [some (.ref v0), some (.int v1), none, none, some (.int (v4 + (1 : Int32)))], [], A2)))) := (ybig_blk 15 _).trans (z_iload cd_X12_row_55 rfl (p := 57) rfl (zgo rfl (z_bipush cd_X12_row_57 kb_100 (p := 59) rfl (zgo rfl (z_ic_ge cd_X12_row_59 (p := 81) rfl (p2 := 62) rfl (zgo rfl (z_iconst cd_X12_row_81 ki_0 (p := 82) rfl (zgo rfl (z_iret cd_X12_row_82 rfl)))) (zgo rfl (z_aload_n cd_X12_row_62 (j := 0) rfl rfl (p := 63) rfl (zgo rfl (z_getR cd_X12_row_63 fd_X12_43 (p := 66) rfl (fun _ => (zgo rfl (z_bipush cd_X12_row_66 kb_100 (p := 68) rfl (zgo rfl (z_iload_n cd_X12_row_68 (j := 1) rfl rfl (p := 69) rfl (zgo rfl (z_imul cd_X12_row_69 (p := 70) rfl (zgo rfl (z_iload cd_X12_row_70 rfl (p := 72) rfl (zgo rfl (z_iadd cd_X12_row_72 (p := 73) rfl (zgo rfl (z_iconst cd_X12_row_73 ki_0 (p := 74) rfl (zgo rfl (z_iastore cd_X12_row_74 (p := 75) rfl (fun _ => (zgo rfl (z_iinc cd_X12_row_75 ki_1 rfl rfl (p := 78) rfl (zgo rfl (z_goto cd_X12_row_78 (p := 55) rfl (zcut (p := 55) rfl rfl))))))))))))))))))))))))))))))
theorem cd_X12_put_0 : ylk m_X12_put.2.2.2.2.1 0 = some (.aload_n 0) := by decide +kernel
theorem cd_X12_put_1 : ylk m_X12_put.2.2.2.2.1 1 = some (.iload_n 1) := by decide +kernel
theorem cd_X12_put_2 : ylk m_X12_put.2.2.2.2.1 2 = some (.iconst (-1)) := by decide +kernel
theorem cd_X12_put_3 : ylk m_X12_put.2.2.2.2.1 3 = some (.invokevirtual 136) := by decide +kernel
theorem cd_X12_put_6 : ylk m_X12_put.2.2.2.2.1 6 = some (.istore 4) := by decide +kernel
theorem cd_X12_put_8 : ylk m_X12_put.2.2.2.2.1 8 = some (.iload 4) := by decide +kernel
theorem cd_X12_put_10 : ylk m_X12_put.2.2.2.2.1 10 = some (.ifCond .eq 6) := by decide +kernel
theorem cd_X12_put_13 : ylk m_X12_put.2.2.2.2.1 13 = some (.iload 4) := by decide +kernel
theorem cd_X12_put_15 : ylk m_X12_put.2.2.2.2.1 15 = some (.ireturn) := by decide +kernel
theorem cd_X12_put_16 : ylk m_X12_put.2.2.2.2.1 16 = some (.iload_n 2) := by decide +kernel
theorem cd_X12_put_17 : ylk m_X12_put.2.2.2.2.1 17 = some (.iconst 0) := by decide +kernel
theorem cd_X12_put_18 : ylk m_X12_put.2.2.2.2.1 18 = some (.aload_n 0) := by decide +kernel
theorem cd_X12_put_19 : ylk m_X12_put.2.2.2.2.1 19 = some (.getfield 40) := by decide +kernel
theorem cd_X12_put_22 : ylk m_X12_put.2.2.2.2.1 22 = some (.iload_n 1) := by decide +kernel
theorem cd_X12_put_23 : ylk m_X12_put.2.2.2.2.1 23 = some (.iaload) := by decide +kernel
theorem cd_X12_put_24 : ylk m_X12_put.2.2.2.2.1 24 = some (.iconst 1) := by decide +kernel
theorem cd_X12_put_25 : ylk m_X12_put.2.2.2.2.1 25 = some (.isub) := by decide +kernel
theorem cd_X12_put_26 : ylk m_X12_put.2.2.2.2.1 26 = some (.invokestatic 46) := by decide +kernel
theorem cd_X12_put_29 : ylk m_X12_put.2.2.2.2.1 29 = some (.ifCond .ne 6) := by decide +kernel
theorem cd_X12_put_32 : ylk m_X12_put.2.2.2.2.1 32 = some (.bipush (-13)) := by decide +kernel
theorem cd_X12_put_34 : ylk m_X12_put.2.2.2.2.1 34 = some (.ireturn) := by decide +kernel
theorem cd_X12_put_35 : ylk m_X12_put.2.2.2.2.1 35 = some (.aload_n 0) := by decide +kernel
theorem cd_X12_put_36 : ylk m_X12_put.2.2.2.2.1 36 = some (.getfield 43) := by decide +kernel
theorem cd_X12_put_39 : ylk m_X12_put.2.2.2.2.1 39 = some (.bipush 100) := by decide +kernel
theorem cd_X12_put_41 : ylk m_X12_put.2.2.2.2.1 41 = some (.iload_n 1) := by decide +kernel
theorem cd_X12_put_42 : ylk m_X12_put.2.2.2.2.1 42 = some (.imul) := by decide +kernel
theorem cd_X12_put_43 : ylk m_X12_put.2.2.2.2.1 43 = some (.iload_n 2) := by decide +kernel
theorem cd_X12_put_44 : ylk m_X12_put.2.2.2.2.1 44 = some (.iadd) := by decide +kernel
theorem cd_X12_put_45 : ylk m_X12_put.2.2.2.2.1 45 = some (.aload_n 0) := by decide +kernel
theorem cd_X12_put_46 : ylk m_X12_put.2.2.2.2.1 46 = some (.getfield 37) := by decide +kernel
theorem cd_X12_put_49 : ylk m_X12_put.2.2.2.2.1 49 = some (.iload_n 1) := by decide +kernel
theorem cd_X12_put_50 : ylk m_X12_put.2.2.2.2.1 50 = some (.iaload) := by decide +kernel
theorem cd_X12_put_51 : ylk m_X12_put.2.2.2.2.1 51 = some (.ifCond .ne 8) := by decide +kernel
theorem cd_X12_put_54 : ylk m_X12_put.2.2.2.2.1 54 = some (.iload_n 3) := by decide +kernel
theorem cd_X12_put_55 : ylk m_X12_put.2.2.2.2.1 55 = some (.i2b) := by decide +kernel
theorem cd_X12_put_56 : ylk m_X12_put.2.2.2.2.1 56 = some (.goto 19) := by decide +kernel
theorem cd_X12_put_59 : ylk m_X12_put.2.2.2.2.1 59 = some (.aload_n 0) := by decide +kernel
theorem cd_X12_put_60 : ylk m_X12_put.2.2.2.2.1 60 = some (.getfield 37) := by decide +kernel
theorem cd_X12_put_63 : ylk m_X12_put.2.2.2.2.1 63 = some (.iload_n 1) := by decide +kernel
theorem cd_X12_put_64 : ylk m_X12_put.2.2.2.2.1 64 = some (.iaload) := by decide +kernel
theorem cd_X12_put_65 : ylk m_X12_put.2.2.2.2.1 65 = some (.iconst 1) := by decide +kernel
theorem cd_X12_put_66 : ylk m_X12_put.2.2.2.2.1 66 = some (.if_icmp .ne 8) := by decide +kernel
theorem cd_X12_put_69 : ylk m_X12_put.2.2.2.2.1 69 = some (.iload_n 3) := by decide +kernel
theorem cd_X12_put_70 : ylk m_X12_put.2.2.2.2.1 70 = some (.i2s) := by decide +kernel
theorem cd_X12_put_71 : ylk m_X12_put.2.2.2.2.1 71 = some (.goto 4) := by decide +kernel
theorem cd_X12_put_74 : ylk m_X12_put.2.2.2.2.1 74 = some (.iload_n 3) := by decide +kernel
theorem cd_X12_put_75 : ylk m_X12_put.2.2.2.2.1 75 = some (.iastore) := by decide +kernel
theorem cd_X12_put_76 : ylk m_X12_put.2.2.2.2.1 76 = some (.iconst 0) := by decide +kernel
theorem cd_X12_put_77 : ylk m_X12_put.2.2.2.2.1 77 = some (.ireturn) := by decide +kernel
noncomputable abbrev yb_X12_put (C : yC) : ySt → Option (Option Value × yM) := yrn m_X12_put C
theorem en_X12_put (n : Nat) (A : yM) (v0 : Nat) (v1 : Int32) (v2 : Int32) (v3 : Int32) : ycall (n + 1) 234 [.ref v0, .int v1, .int v2, .int v3] A = (yi (yvt [(11, 230)] (ycall n) [.ref v0, .int v1, .int (-1 : Int32)] A)).bind (fun z1 => if z1.1 = 0 then (ygR z1.2 v0 11 15 (fun a2 => yrd z1.2 a2 v1 (fun x3 => (yi ((ycall n) 138 [.int v2, .int (0 : Int32), .int (x3 - (1 : Int32))] z1.2)).bind (fun z4 => if z4.1 = 0 then (some (some (.int (-13 : Int32)), z4.2)) else (ygR z4.2 v0 11 16 (fun a5 => ygR z4.2 v0 11 14 (fun a6 => yrd z4.2 a6 v1 (fun x7 => if x7 = 0 then (ywr z4.2 a5 (((100 : Int32) * v1) + v2) v3.toInt8.toInt32 (fun A12 => some (some (.int (0 : Int32)), A12))) else (ygR z4.2 v0 11 14 (fun a8 => yrd z4.2 a8 v1 (fun x9 => if x9 = (1 : Int32) then (ywr z4.2 a5 (((100 : Int32) * v1) + v2) v3.toInt16.toInt32 (fun A11 => some (some (.int (0 : Int32)), A11))) else (ywr z4.2 a5 (((100 : Int32) * v1) + v2) v3 (fun A10 => some (some (.int (0 : Int32)), A10)))))))))))))) else (some (some (.int z1.1), z1.2))) := (ybig_blk 42 _).trans (z_aload_n cd_X12_put_0 (j := 0) rfl rfl (p := 1) rfl (zgo rfl (z_iload_n cd_X12_put_1 (j := 1) rfl rfl (p := 2) rfl (zgo rfl (z_iconst cd_X12_put_2 ki_m1 (p := 3) rfl (zgo rfl (z_cv1 cd_X12_put_3 (zv (key := 408) (by decide)) cl_X12_c408 rfl rfl rfl rfl (p := 6) rfl (fun _ => (zgo rfl (z_istore cd_X12_put_6 rfl (p := 8) rfl (zgo rfl (z_iload cd_X12_put_8 rfl (p := 10) rfl (zgo rfl (z_if_eq cd_X12_put_10 (p := 16) rfl (p2 := 13) rfl (zgo rfl (z_iload_n cd_X12_put_16 (j := 2) rfl rfl (p := 17) rfl (zgo rfl (z_iconst cd_X12_put_17 ki_0 (p := 18) rfl (zgo rfl (z_aload_n cd_X12_put_18 (j := 0) rfl rfl (p := 19) rfl (zgo rfl (z_getR cd_X12_put_19 fd_X12_40 (p := 22) rfl (fun _ => (zgo rfl (z_iload_n cd_X12_put_22 (j := 1) rfl rfl (p := 23) rfl (zgo rfl (z_iaload cd_X12_put_23 (p := 24) rfl (fun _ => (zgo rfl (z_iconst cd_X12_put_24 ki_1 (p := 25) rfl (zgo rfl (z_isub cd_X12_put_25 (p := 26) rfl (zgo rfl (z_cs1 cd_X12_put_26 (zs (key := 139) (by decide)) cl_X12_c139 rfl rfl rfl rfl (p := 29) rfl (fun _ => (zgo rfl (z_if_ne cd_X12_put_29 (p := 35) rfl (p2 := 32) rfl (zgo rfl (z_bipush cd_X12_put_32 kb_m13 (p := 34) rfl (zgo rfl (z_iret cd_X12_put_34 rfl)))) (zgo rfl (z_aload_n cd_X12_put_35 (j := 0) rfl rfl (p := 36) rfl (zgo rfl (z_getR cd_X12_put_36 fd_X12_43 (p := 39) rfl (fun _ => (zgo rfl (z_bipush cd_X12_put_39 kb_100 (p := 41) rfl (zgo rfl (z_iload_n cd_X12_put_41 (j := 1) rfl rfl (p := 42) rfl (zgo rfl (z_imul cd_X12_put_42 (p := 43) rfl (zgo rfl (z_iload_n cd_X12_put_43 (j := 2) rfl rfl (p := 44) rfl (zgo rfl (z_iadd cd_X12_put_44 (p := 45) rfl (zgo rfl (z_aload_n cd_X12_put_45 (j := 0) rfl rfl (p := 46) rfl (zgo rfl (z_getR cd_X12_put_46 fd_X12_37 (p := 49) rfl (fun _ => (zgo rfl (z_iload_n cd_X12_put_49 (j := 1) rfl rfl (p := 50) rfl (zgo rfl (z_iaload cd_X12_put_50 (p := 51) rfl (fun _ => (zgo rfl (z_if_ne cd_X12_put_51 (p := 59) rfl (p2 := 54) rfl (zgo rfl (z_iload_n cd_X12_put_54 (j := 3) rfl rfl (p := 55) rfl (zgo rfl (z_i2b cd_X12_put_55 (p := 56) rfl (zgo rfl (z_goto cd_X12_put_56 (p := 75) rfl (zgo rfl (z_iastore cd_X12_put_75 (p := 76) rfl (fun _ => (zgo rfl (z_iconst cd_X12_put_76 ki_0 (p := 77) rfl (zgo rfl (z_iret cd_X12_put_77 rfl))))))))))))) (zgo rfl (z_aload_n cd_X12_put_59 (j := 0) rfl rfl (p := 60) rfl (zgo rfl (z_getR cd_X12_put_60 fd_X12_37 (p := 63) rfl (fun _ => (zgo rfl (z_iload_n cd_X12_put_63 (j := 1) rfl rfl (p := 64) rfl (zgo rfl (z_iaload cd_X12_put_64 (p := 65) rfl (fun _ => (zgo rfl (z_iconst cd_X12_put_65 ki_1 (p := 66) rfl (zgo rfl (z_ic_ne cd_X12_put_66 (p := 74) rfl (p2 := 69) rfl (zgo rfl (z_iload_n cd_X12_put_69 (j := 3) rfl rfl (p := 70) rfl (zgo rfl (z_i2s cd_X12_put_70 (p := 71) rfl (zgo rfl (z_goto cd_X12_put_71 (p := 75) rfl (zgo rfl (z_iastore cd_X12_put_75 (p := 76) rfl (fun _ => (zgo rfl (z_iconst cd_X12_put_76 ki_0 (p := 77) rfl (zgo rfl (z_iret cd_X12_put_77 rfl))))))))))))) (zgo rfl (z_iload_n cd_X12_put_74 (j := 3) rfl rfl (p := 75) rfl (zgo rfl (z_iastore cd_X12_put_75 (p := 76) rfl (fun _ => (zgo rfl (z_iconst cd_X12_put_76 ki_0 (p := 77) rfl (zgo rfl (z_iret cd_X12_put_77 rfl))))))))))))))))))))))))))))))))))))))))))))))))))))))))))))))))))))))))) (zgo rfl (z_iload cd_X12_put_13 rfl (p := 15) rfl (zgo rfl (z_iret cd_X12_put_15 rfl))))))))))))))))))
theorem cd_X12_element_0 : ylk m_X12_element.2.2.2.2.1 0 = some (.aload_n 0) := by decide +kernel
theorem cd_X12_element_1 : ylk m_X12_element.2.2.2.2.1 1 = some (.iload_n 1) := by decide +kernel
theorem cd_X12_element_2 : ylk m_X12_element.2.2.2.2.1 2 = some (.invokestatic 270) := by decide +kernel
theorem cd_X12_element_5 : ylk m_X12_element.2.2.2.2.1 5 = some (.ifCond .ne 7) := by decide +kernel
theorem cd_X12_element_8 : ylk m_X12_element.2.2.2.2.1 8 = some (.iconst 1) := by decide +kernel
theorem cd_X12_element_9 : ylk m_X12_element.2.2.2.2.1 9 = some (.goto 34) := by decide +kernel
theorem cd_X12_element_12 : ylk m_X12_element.2.2.2.2.1 12 = some (.aload_n 0) := by decide +kernel
theorem cd_X12_element_13 : ylk m_X12_element.2.2.2.2.1 13 = some (.getfield 28) := by decide +kernel
theorem cd_X12_element_16 : ylk m_X12_element.2.2.2.2.1 16 = some (.iload_n 1) := by decide +kernel
theorem cd_X12_element_17 : ylk m_X12_element.2.2.2.2.1 17 = some (.iaload) := by decide +kernel
theorem cd_X12_element_18 : ylk m_X12_element.2.2.2.2.1 18 = some (.iconst 2) := by decide +kernel
theorem cd_X12_element_19 : ylk m_X12_element.2.2.2.2.1 19 = some (.if_icmp .ne 19) := by decide +kernel
theorem cd_X12_element_22 : ylk m_X12_element.2.2.2.2.1 22 = some (.iload_n 2) := by decide +kernel
theorem cd_X12_element_23 : ylk m_X12_element.2.2.2.2.1 23 = some (.iconst 0) := by decide +kernel
theorem cd_X12_element_24 : ylk m_X12_element.2.2.2.2.1 24 = some (.aload_n 0) := by decide +kernel
theorem cd_X12_element_25 : ylk m_X12_element.2.2.2.2.1 25 = some (.getfield 40) := by decide +kernel
theorem cd_X12_element_28 : ylk m_X12_element.2.2.2.2.1 28 = some (.iload_n 1) := by decide +kernel
theorem cd_X12_element_29 : ylk m_X12_element.2.2.2.2.1 29 = some (.iaload) := by decide +kernel
theorem cd_X12_element_30 : ylk m_X12_element.2.2.2.2.1 30 = some (.iconst 1) := by decide +kernel
theorem cd_X12_element_31 : ylk m_X12_element.2.2.2.2.1 31 = some (.isub) := by decide +kernel
theorem cd_X12_element_32 : ylk m_X12_element.2.2.2.2.1 32 = some (.invokestatic 46) := by decide +kernel
theorem cd_X12_element_35 : ylk m_X12_element.2.2.2.2.1 35 = some (.ifCond .ne 7) := by decide +kernel
theorem cd_X12_element_38 : ylk m_X12_element.2.2.2.2.1 38 = some (.iconst 2) := by decide +kernel
theorem cd_X12_element_39 : ylk m_X12_element.2.2.2.2.1 39 = some (.goto 4) := by decide +kernel
theorem cd_X12_element_42 : ylk m_X12_element.2.2.2.2.1 42 = some (.iconst 0) := by decide +kernel
theorem cd_X12_element_43 : ylk m_X12_element.2.2.2.2.1 43 = some (.putfield 267) := by decide +kernel
theorem cd_X12_element_46 : ylk m_X12_element.2.2.2.2.1 46 = some (.aload_n 0) := by decide +kernel
theorem cd_X12_element_47 : ylk m_X12_element.2.2.2.2.1 47 = some (.getfield 267) := by decide +kernel
theorem cd_X12_element_50 : ylk m_X12_element.2.2.2.2.1 50 = some (.ifCond .ne 18) := by decide +kernel
theorem cd_X12_element_53 : ylk m_X12_element.2.2.2.2.1 53 = some (.aload_n 0) := by decide +kernel
theorem cd_X12_element_54 : ylk m_X12_element.2.2.2.2.1 54 = some (.getfield 43) := by decide +kernel
theorem cd_X12_element_57 : ylk m_X12_element.2.2.2.2.1 57 = some (.bipush 100) := by decide +kernel
theorem cd_X12_element_59 : ylk m_X12_element.2.2.2.2.1 59 = some (.iload_n 1) := by decide +kernel
theorem cd_X12_element_60 : ylk m_X12_element.2.2.2.2.1 60 = some (.imul) := by decide +kernel
theorem cd_X12_element_61 : ylk m_X12_element.2.2.2.2.1 61 = some (.iload_n 2) := by decide +kernel
theorem cd_X12_element_62 : ylk m_X12_element.2.2.2.2.1 62 = some (.iadd) := by decide +kernel
theorem cd_X12_element_63 : ylk m_X12_element.2.2.2.2.1 63 = some (.iaload) := by decide +kernel
theorem cd_X12_element_64 : ylk m_X12_element.2.2.2.2.1 64 = some (.i2l) := by decide +kernel
theorem cd_X12_element_65 : ylk m_X12_element.2.2.2.2.1 65 = some (.goto 4) := by decide +kernel
theorem cd_X12_element_68 : ylk m_X12_element.2.2.2.2.1 68 = some (.lconst 0) := by decide +kernel
theorem cd_X12_element_69 : ylk m_X12_element.2.2.2.2.1 69 = some (.lreturn) := by decide +kernel
noncomputable abbrev yb_X12_element (C : yC) : ySt → Option (Option Value × yM) := yrn m_X12_element C
theorem en_X12_element (n : Nat) (A : yM) (v0 : Nat) (v1 : Int32) (v2 : Int32) : ycall (n + 1) 235 [.ref v0, .int v1, .int v2] A = (yi ((ycall n) 229 [.int v1] A)).bind (fun z1 => if z1.1 = 0 then (ypI z1.2 v0 11 17 (1 : Int32) (fun A19 => ygI A19 v0 11 17 (fun x20 => if x20 = 0 then (ygR A19 v0 11 16 (fun a21 => yrd A19 a21 (((100 : Int32) * v1) + v2) (fun x22 => some (some (.long x22.toInt64), A19)))) else (some (some (.long (0 : Int64)), A19))))) else (ygR z1.2 v0 11 11 (fun a2 => yrd z1.2 a2 v1 (fun x3 => if x3 = (2 : Int32) then (ygR z1.2 v0 11 15 (fun a8 => yrd z1.2 a8 v1 (fun x9 => (yi ((ycall n) 138 [.int v2, .int (0 : Int32), .int (x9 - (1 : Int32))] z1.2)).bind (fun z10 => if z10.1 = 0 then (ypI z10.2 v0 11 17 (2 : Int32) (fun A15 => ygI A15 v0 11 17 (fun x16 => if x16 = 0 then (ygR A15 v0 11 16 (fun a17 => yrd A15 a17 (((100 : Int32) * v1) + v2) (fun x18 => some (some (.long x18.toInt64), A15)))) else (some (some (.long (0 : Int64)), A15))))) else (ypI z10.2 v0 11 17 (0 : Int32) (fun A11 => ygI A11 v0 11 17 (fun x12 => if x12 = 0 then (ygR A11 v0 11 16 (fun a13 => yrd A11 a13 (((100 : Int32) * v1) + v2) (fun x14 => some (some (.long x14.toInt64), A11)))) else (some (some (.long (0 : Int64)), A11))))))))) else (ypI z1.2 v0 11 17 (2 : Int32) (fun A4 => ygI A4 v0 11 17 (fun x5 => if x5 = 0 then (ygR A4 v0 11 16 (fun a6 => yrd A4 a6 (((100 : Int32) * v1) + v2) (fun x7 => some (some (.long x7.toInt64), A4)))) else (some (some (.long (0 : Int64)), A4))))))))) := (ybig_blk 38 _).trans (z_aload_n cd_X12_element_0 (j := 0) rfl rfl (p := 1) rfl (zgo rfl (z_iload_n cd_X12_element_1 (j := 1) rfl rfl (p := 2) rfl (zgo rfl (z_cs1 cd_X12_element_2 (zs (key := 811) (by decide)) cl_X12_c811 rfl rfl rfl rfl (p := 5) rfl (fun _ => (zgo rfl (z_if_ne cd_X12_element_5 (p := 12) rfl (p2 := 8) rfl (zgo rfl (z_iconst cd_X12_element_8 ki_1 (p := 9) rfl (zgo rfl (z_goto cd_X12_element_9 (p := 43) rfl (zgo rfl (z_putI cd_X12_element_43 fd_X12_267 (p := 46) rfl (fun _ => (zgo rfl (z_aload_n cd_X12_element_46 (j := 0) rfl rfl (p := 47) rfl (zgo rfl (z_getI cd_X12_element_47 fd_X12_267 (p := 50) rfl (fun _ => (zgo rfl (z_if_ne cd_X12_element_50 (p := 68) rfl (p2 := 53) rfl (zgo rfl (z_aload_n cd_X12_element_53 (j := 0) rfl rfl (p := 54) rfl (zgo rfl (z_getR cd_X12_element_54 fd_X12_43 (p := 57) rfl (fun _ => (zgo rfl (z_bipush cd_X12_element_57 kb_100 (p := 59) rfl (zgo rfl (z_iload_n cd_X12_element_59 (j := 1) rfl rfl (p := 60) rfl (zgo rfl (z_imul cd_X12_element_60 (p := 61) rfl (zgo rfl (z_iload_n cd_X12_element_61 (j := 2) rfl rfl (p := 62) rfl (zgo rfl (z_iadd cd_X12_element_62 (p := 63) rfl (zgo rfl (z_iaload cd_X12_element_63 (p := 64) rfl (fun _ => (zgo rfl (z_i2l cd_X12_element_64 (p := 65) rfl (zgo rfl (z_goto cd_X12_element_65 (p := 69) rfl (zgo rfl (z_lret cd_X12_element_69 rfl)))))))))))))))))))))))) (zgo rfl (z_lconst cd_X12_element_68 kl_0 (p := 69) rfl (zgo rfl (z_lret cd_X12_element_69 rfl)))))))))))))))))) (zgo rfl (z_aload_n cd_X12_element_12 (j := 0) rfl rfl (p := 13) rfl (zgo rfl (z_getR cd_X12_element_13 fd_X12_28 (p := 16) rfl (fun _ => (zgo rfl (z_iload_n cd_X12_element_16 (j := 1) rfl rfl (p := 17) rfl (zgo rfl (z_iaload cd_X12_element_17 (p := 18) rfl (fun _ => (zgo rfl (z_iconst cd_X12_element_18 ki_2 (p := 19) rfl (zgo rfl (z_ic_ne cd_X12_element_19 (p := 38) rfl (p2 := 22) rfl (zgo rfl (z_iload_n cd_X12_element_22 (j := 2) rfl rfl (p := 23) rfl (zgo rfl (z_iconst cd_X12_element_23 ki_0 (p := 24) rfl (zgo rfl (z_aload_n cd_X12_element_24 (j := 0) rfl rfl (p := 25) rfl (zgo rfl (z_getR cd_X12_element_25 fd_X12_40 (p := 28) rfl (fun _ => (zgo rfl (z_iload_n cd_X12_element_28 (j := 1) rfl rfl (p := 29) rfl (zgo rfl (z_iaload cd_X12_element_29 (p := 30) rfl (fun _ => (zgo rfl (z_iconst cd_X12_element_30 ki_1 (p := 31) rfl (zgo rfl (z_isub cd_X12_element_31 (p := 32) rfl (zgo rfl (z_cs1 cd_X12_element_32 (zs (key := 139) (by decide)) cl_X12_c139 rfl rfl rfl rfl (p := 35) rfl (fun _ => (zgo rfl (z_if_ne cd_X12_element_35 (p := 42) rfl (p2 := 38) rfl (zgo rfl (z_iconst cd_X12_element_38 ki_2 (p := 39) rfl (zgo rfl (z_goto cd_X12_element_39 (p := 43) rfl (zgo rfl (z_putI cd_X12_element_43 fd_X12_267 (p := 46) rfl (fun _ => (zgo rfl (z_aload_n cd_X12_element_46 (j := 0) rfl rfl (p := 47) rfl (zgo rfl (z_getI cd_X12_element_47 fd_X12_267 (p := 50) rfl (fun _ => (zgo rfl (z_if_ne cd_X12_element_50 (p := 68) rfl (p2 := 53) rfl (zgo rfl (z_aload_n cd_X12_element_53 (j := 0) rfl rfl (p := 54) rfl (zgo rfl (z_getR cd_X12_element_54 fd_X12_43 (p := 57) rfl (fun _ => (zgo rfl (z_bipush cd_X12_element_57 kb_100 (p := 59) rfl (zgo rfl (z_iload_n cd_X12_element_59 (j := 1) rfl rfl (p := 60) rfl (zgo rfl (z_imul cd_X12_element_60 (p := 61) rfl (zgo rfl (z_iload_n cd_X12_element_61 (j := 2) rfl rfl (p := 62) rfl (zgo rfl (z_iadd cd_X12_element_62 (p := 63) rfl (zgo rfl (z_iaload cd_X12_element_63 (p := 64) rfl (fun _ => (zgo rfl (z_i2l cd_X12_element_64 (p := 65) rfl (zgo rfl (z_goto cd_X12_element_65 (p := 69) rfl (zgo rfl (z_lret cd_X12_element_69 rfl)))))))))))))))))))))))) (zgo rfl (z_lconst cd_X12_element_68 kl_0 (p := 69) rfl (zgo rfl (z_lret cd_X12_element_69 rfl)))))))))))))))))) (zgo rfl (z_iconst cd_X12_element_42 ki_0 (p := 43) rfl (zgo rfl (z_putI cd_X12_element_43 fd_X12_267 (p := 46) rfl (fun _ => (zgo rfl (z_aload_n cd_X12_element_46 (j := 0) rfl rfl (p := 47) rfl (zgo rfl (z_getI cd_X12_element_47 fd_X12_267 (p := 50) rfl (fun _ => (zgo rfl (z_if_ne cd_X12_element_50 (p := 68) rfl (p2 := 53) rfl (zgo rfl (z_aload_n cd_X12_element_53 (j := 0) rfl rfl (p := 54) rfl (zgo rfl (z_getR cd_X12_element_54 fd_X12_43 (p := 57) rfl (fun _ => (zgo rfl (z_bipush cd_X12_element_57 kb_100 (p := 59) rfl (zgo rfl (z_iload_n cd_X12_element_59 (j := 1) rfl rfl (p := 60) rfl (zgo rfl (z_imul cd_X12_element_60 (p := 61) rfl (zgo rfl (z_iload_n cd_X12_element_61 (j := 2) rfl rfl (p := 62) rfl (zgo rfl (z_iadd cd_X12_element_62 (p := 63) rfl (zgo rfl (z_iaload cd_X12_element_63 (p := 64) rfl (fun _ => (zgo rfl (z_i2l cd_X12_element_64 (p := 65) rfl (zgo rfl (z_goto cd_X12_element_65 (p := 69) rfl (zgo rfl (z_lret cd_X12_element_69 rfl)))))))))))))))))))))))) (zgo rfl (z_lconst cd_X12_element_68 kl_0 (p := 69) rfl (zgo rfl (z_lret cd_X12_element_69 rfl))))))))))))))))))))))))))))))))))))))) (zgo rfl (z_iconst cd_X12_element_38 ki_2 (p := 39) rfl (zgo rfl (z_goto cd_X12_element_39 (p := 43) rfl (zgo rfl (z_putI cd_X12_element_43 fd_X12_267 (p := 46) rfl (fun _ => (zgo rfl (z_aload_n cd_X12_element_46 (j := 0) rfl rfl (p := 47) rfl (zgo rfl (z_getI cd_X12_element_47 fd_X12_267 (p := 50) rfl (fun _ => (zgo rfl (z_if_ne cd_X12_element_50 (p := 68) rfl (p2 := 53) rfl (zgo rfl (z_aload_n cd_X12_element_53 (j := 0) rfl rfl (p := 54) rfl (zgo rfl (z_getR cd_X12_element_54 fd_X12_43 (p := 57) rfl (fun _ => (zgo rfl (z_bipush cd_X12_element_57 kb_100 (p := 59) rfl (zgo rfl (z_iload_n cd_X12_element_59 (j := 1) rfl rfl (p := 60) rfl (zgo rfl (z_imul cd_X12_element_60 (p := 61) rfl (zgo rfl (z_iload_n cd_X12_element_61 (j := 2) rfl rfl (p := 62) rfl (zgo rfl (z_iadd cd_X12_element_62 (p := 63) rfl (zgo rfl (z_iaload cd_X12_element_63 (p := 64) rfl (fun _ => (zgo rfl (z_i2l cd_X12_element_64 (p := 65) rfl (zgo rfl (z_goto cd_X12_element_65 (p := 69) rfl (zgo rfl (z_lret cd_X12_element_69 rfl)))))))))))))))))))))))) (zgo rfl (z_lconst cd_X12_element_68 kl_0 (p := 69) rfl (zgo rfl (z_lret cd_X12_element_69 rfl))))))))))))))))))))))))))))))))))))))))
theorem cd_X12_copy_0 : ylk m_X12_copy.2.2.2.2.1 0 = some (.iload_n 1) := by decide +kernel
theorem cd_X12_copy_1 : ylk m_X12_copy.2.2.2.2.1 1 = some (.invokestatic 270) := by decide +kernel
theorem cd_X12_copy_4 : ylk m_X12_copy.2.2.2.2.1 4 = some (.ifCond .eq 10) := by decide +kernel
theorem cd_X12_copy_7 : ylk m_X12_copy.2.2.2.2.1 7 = some (.iload_n 3) := by decide +kernel
theorem cd_X12_copy_8 : ylk m_X12_copy.2.2.2.2.1 8 = some (.invokestatic 270) := by decide +kernel
theorem cd_X12_copy_11 : ylk m_X12_copy.2.2.2.2.1 11 = some (.ifCond .ne 5) := by decide +kernel
theorem cd_X12_copy_14 : ylk m_X12_copy.2.2.2.2.1 14 = some (.iconst (-1)) := by decide +kernel
theorem cd_X12_copy_15 : ylk m_X12_copy.2.2.2.2.1 15 = some (.ireturn) := by decide +kernel
theorem cd_X12_copy_16 : ylk m_X12_copy.2.2.2.2.1 16 = some (.aload_n 0) := by decide +kernel
theorem cd_X12_copy_17 : ylk m_X12_copy.2.2.2.2.1 17 = some (.getfield 28) := by decide +kernel
theorem cd_X12_copy_20 : ylk m_X12_copy.2.2.2.2.1 20 = some (.iload_n 1) := by decide +kernel
theorem cd_X12_copy_21 : ylk m_X12_copy.2.2.2.2.1 21 = some (.iaload) := by decide +kernel
theorem cd_X12_copy_22 : ylk m_X12_copy.2.2.2.2.1 22 = some (.ifCond .eq 12) := by decide +kernel
theorem cd_X12_copy_25 : ylk m_X12_copy.2.2.2.2.1 25 = some (.aload_n 0) := by decide +kernel
theorem cd_X12_copy_26 : ylk m_X12_copy.2.2.2.2.1 26 = some (.getfield 28) := by decide +kernel
theorem cd_X12_copy_29 : ylk m_X12_copy.2.2.2.2.1 29 = some (.iload_n 3) := by decide +kernel
theorem cd_X12_copy_30 : ylk m_X12_copy.2.2.2.2.1 30 = some (.iaload) := by decide +kernel
theorem cd_X12_copy_31 : ylk m_X12_copy.2.2.2.2.1 31 = some (.ifCond .ne 6) := by decide +kernel
theorem cd_X12_copy_34 : ylk m_X12_copy.2.2.2.2.1 34 = some (.bipush (-11)) := by decide +kernel
theorem cd_X12_copy_36 : ylk m_X12_copy.2.2.2.2.1 36 = some (.ireturn) := by decide +kernel
theorem cd_X12_copy_37 : ylk m_X12_copy.2.2.2.2.1 37 = some (.aload_n 0) := by decide +kernel
theorem cd_X12_copy_38 : ylk m_X12_copy.2.2.2.2.1 38 = some (.getfield 28) := by decide +kernel
theorem cd_X12_copy_41 : ylk m_X12_copy.2.2.2.2.1 41 = some (.iload_n 1) := by decide +kernel
theorem cd_X12_copy_42 : ylk m_X12_copy.2.2.2.2.1 42 = some (.iaload) := by decide +kernel
theorem cd_X12_copy_43 : ylk m_X12_copy.2.2.2.2.1 43 = some (.iconst 2) := by decide +kernel
theorem cd_X12_copy_44 : ylk m_X12_copy.2.2.2.2.1 44 = some (.if_icmp .ne 28) := by decide +kernel
theorem cd_X12_copy_47 : ylk m_X12_copy.2.2.2.2.1 47 = some (.aload_n 0) := by decide +kernel
theorem cd_X12_copy_48 : ylk m_X12_copy.2.2.2.2.1 48 = some (.getfield 28) := by decide +kernel
theorem cd_X12_copy_51 : ylk m_X12_copy.2.2.2.2.1 51 = some (.iload_n 3) := by decide +kernel
theorem cd_X12_copy_52 : ylk m_X12_copy.2.2.2.2.1 52 = some (.iaload) := by decide +kernel
theorem cd_X12_copy_53 : ylk m_X12_copy.2.2.2.2.1 53 = some (.iconst 2) := by decide +kernel
theorem cd_X12_copy_54 : ylk m_X12_copy.2.2.2.2.1 54 = some (.if_icmp .ne 18) := by decide +kernel
theorem cd_X12_copy_57 : ylk m_X12_copy.2.2.2.2.1 57 = some (.aload_n 0) := by decide +kernel
theorem cd_X12_copy_58 : ylk m_X12_copy.2.2.2.2.1 58 = some (.getfield 37) := by decide +kernel
theorem cd_X12_copy_61 : ylk m_X12_copy.2.2.2.2.1 61 = some (.iload_n 1) := by decide +kernel
theorem cd_X12_copy_62 : ylk m_X12_copy.2.2.2.2.1 62 = some (.iaload) := by decide +kernel
theorem cd_X12_copy_63 : ylk m_X12_copy.2.2.2.2.1 63 = some (.aload_n 0) := by decide +kernel
theorem cd_X12_copy_64 : ylk m_X12_copy.2.2.2.2.1 64 = some (.getfield 37) := by decide +kernel
theorem cd_X12_copy_67 : ylk m_X12_copy.2.2.2.2.1 67 = some (.iload_n 3) := by decide +kernel
theorem cd_X12_copy_68 : ylk m_X12_copy.2.2.2.2.1 68 = some (.iaload) := by decide +kernel
theorem cd_X12_copy_69 : ylk m_X12_copy.2.2.2.2.1 69 = some (.if_icmp .eq 6) := by decide +kernel
theorem cd_X12_copy_72 : ylk m_X12_copy.2.2.2.2.1 72 = some (.bipush (-12)) := by decide +kernel
theorem cd_X12_copy_74 : ylk m_X12_copy.2.2.2.2.1 74 = some (.ireturn) := by decide +kernel
theorem cd_X12_copy_75 : ylk m_X12_copy.2.2.2.2.1 75 = some (.iload 5) := by decide +kernel
theorem cd_X12_copy_77 : ylk m_X12_copy.2.2.2.2.1 77 = some (.ifCond .lt 39) := by decide +kernel
theorem cd_X12_copy_80 : ylk m_X12_copy.2.2.2.2.1 80 = some (.iload_n 2) := by decide +kernel
theorem cd_X12_copy_81 : ylk m_X12_copy.2.2.2.2.1 81 = some (.ifCond .lt 35) := by decide +kernel
theorem cd_X12_copy_84 : ylk m_X12_copy.2.2.2.2.1 84 = some (.iload 4) := by decide +kernel
theorem cd_X12_copy_86 : ylk m_X12_copy.2.2.2.2.1 86 = some (.ifCond .lt 30) := by decide +kernel
theorem cd_X12_copy_89 : ylk m_X12_copy.2.2.2.2.1 89 = some (.iload 5) := by decide +kernel
theorem cd_X12_copy_91 : ylk m_X12_copy.2.2.2.2.1 91 = some (.aload_n 0) := by decide +kernel
theorem cd_X12_copy_92 : ylk m_X12_copy.2.2.2.2.1 92 = some (.getfield 40) := by decide +kernel
theorem cd_X12_copy_95 : ylk m_X12_copy.2.2.2.2.1 95 = some (.iload_n 1) := by decide +kernel
theorem cd_X12_copy_96 : ylk m_X12_copy.2.2.2.2.1 96 = some (.iaload) := by decide +kernel
theorem cd_X12_copy_97 : ylk m_X12_copy.2.2.2.2.1 97 = some (.iload_n 2) := by decide +kernel
theorem cd_X12_copy_98 : ylk m_X12_copy.2.2.2.2.1 98 = some (.isub) := by decide +kernel
theorem cd_X12_copy_99 : ylk m_X12_copy.2.2.2.2.1 99 = some (.if_icmp .gt 17) := by decide +kernel
theorem cd_X12_copy_102 : ylk m_X12_copy.2.2.2.2.1 102 = some (.iload 5) := by decide +kernel
theorem cd_X12_copy_104 : ylk m_X12_copy.2.2.2.2.1 104 = some (.aload_n 0) := by decide +kernel
theorem cd_X12_copy_105 : ylk m_X12_copy.2.2.2.2.1 105 = some (.getfield 40) := by decide +kernel
theorem cd_X12_copy_108 : ylk m_X12_copy.2.2.2.2.1 108 = some (.iload_n 3) := by decide +kernel
theorem cd_X12_copy_109 : ylk m_X12_copy.2.2.2.2.1 109 = some (.iaload) := by decide +kernel
theorem cd_X12_copy_110 : ylk m_X12_copy.2.2.2.2.1 110 = some (.iload 4) := by decide +kernel
theorem cd_X12_copy_112 : ylk m_X12_copy.2.2.2.2.1 112 = some (.isub) := by decide +kernel
theorem cd_X12_copy_113 : ylk m_X12_copy.2.2.2.2.1 113 = some (.if_icmp .le 6) := by decide +kernel
theorem cd_X12_copy_116 : ylk m_X12_copy.2.2.2.2.1 116 = some (.bipush (-13)) := by decide +kernel
theorem cd_X12_copy_118 : ylk m_X12_copy.2.2.2.2.1 118 = some (.ireturn) := by decide +kernel
theorem cd_X12_copy_119 : ylk m_X12_copy.2.2.2.2.1 119 = some (.iconst 0) := by decide +kernel
theorem cd_X12_copy_120 : ylk m_X12_copy.2.2.2.2.1 120 = some (.istore 6) := by decide +kernel
theorem cd_X12_copy_122 : ylk m_X12_copy.2.2.2.2.1 122 = some (.iload 6) := by decide +kernel
theorem cd_X12_copy_124 : ylk m_X12_copy.2.2.2.2.1 124 = some (.iload 5) := by decide +kernel
theorem cd_X12_copy_126 : ylk m_X12_copy.2.2.2.2.1 126 = some (.if_icmp .ge 58) := by decide +kernel
theorem cd_X12_copy_129 : ylk m_X12_copy.2.2.2.2.1 129 = some (.iload_n 2) := by decide +kernel
theorem cd_X12_copy_130 : ylk m_X12_copy.2.2.2.2.1 130 = some (.iload 4) := by decide +kernel
theorem cd_X12_copy_132 : ylk m_X12_copy.2.2.2.2.1 132 = some (.if_icmp .le 8) := by decide +kernel
theorem cd_X12_copy_135 : ylk m_X12_copy.2.2.2.2.1 135 = some (.iload 6) := by decide +kernel
theorem cd_X12_copy_137 : ylk m_X12_copy.2.2.2.2.1 137 = some (.goto 10) := by decide +kernel
theorem cd_X12_copy_140 : ylk m_X12_copy.2.2.2.2.1 140 = some (.iload 5) := by decide +kernel
theorem cd_X12_copy_142 : ylk m_X12_copy.2.2.2.2.1 142 = some (.iconst 1) := by decide +kernel
theorem cd_X12_copy_143 : ylk m_X12_copy.2.2.2.2.1 143 = some (.isub) := by decide +kernel
theorem cd_X12_copy_144 : ylk m_X12_copy.2.2.2.2.1 144 = some (.iload 6) := by decide +kernel
theorem cd_X12_copy_146 : ylk m_X12_copy.2.2.2.2.1 146 = some (.isub) := by decide +kernel
theorem cd_X12_copy_147 : ylk m_X12_copy.2.2.2.2.1 147 = some (.istore 7) := by decide +kernel
theorem cd_X12_copy_149 : ylk m_X12_copy.2.2.2.2.1 149 = some (.aload_n 0) := by decide +kernel
theorem cd_X12_copy_150 : ylk m_X12_copy.2.2.2.2.1 150 = some (.getfield 43) := by decide +kernel
theorem cd_X12_copy_153 : ylk m_X12_copy.2.2.2.2.1 153 = some (.bipush 100) := by decide +kernel
theorem cd_X12_copy_155 : ylk m_X12_copy.2.2.2.2.1 155 = some (.iload_n 3) := by decide +kernel
theorem cd_X12_copy_156 : ylk m_X12_copy.2.2.2.2.1 156 = some (.imul) := by decide +kernel
theorem cd_X12_copy_157 : ylk m_X12_copy.2.2.2.2.1 157 = some (.iload 4) := by decide +kernel
theorem cd_X12_copy_159 : ylk m_X12_copy.2.2.2.2.1 159 = some (.iadd) := by decide +kernel
theorem cd_X12_copy_160 : ylk m_X12_copy.2.2.2.2.1 160 = some (.iload 7) := by decide +kernel
theorem cd_X12_copy_162 : ylk m_X12_copy.2.2.2.2.1 162 = some (.iadd) := by decide +kernel
theorem cd_X12_copy_163 : ylk m_X12_copy.2.2.2.2.1 163 = some (.aload_n 0) := by decide +kernel
theorem cd_X12_copy_164 : ylk m_X12_copy.2.2.2.2.1 164 = some (.getfield 43) := by decide +kernel
theorem cd_X12_copy_167 : ylk m_X12_copy.2.2.2.2.1 167 = some (.bipush 100) := by decide +kernel
theorem cd_X12_copy_169 : ylk m_X12_copy.2.2.2.2.1 169 = some (.iload_n 1) := by decide +kernel
theorem cd_X12_copy_170 : ylk m_X12_copy.2.2.2.2.1 170 = some (.imul) := by decide +kernel
theorem cd_X12_copy_171 : ylk m_X12_copy.2.2.2.2.1 171 = some (.iload_n 2) := by decide +kernel
theorem cd_X12_copy_172 : ylk m_X12_copy.2.2.2.2.1 172 = some (.iadd) := by decide +kernel
theorem cd_X12_copy_173 : ylk m_X12_copy.2.2.2.2.1 173 = some (.iload 7) := by decide +kernel
theorem cd_X12_copy_175 : ylk m_X12_copy.2.2.2.2.1 175 = some (.iadd) := by decide +kernel
theorem cd_X12_copy_176 : ylk m_X12_copy.2.2.2.2.1 176 = some (.iaload) := by decide +kernel
theorem cd_X12_copy_177 : ylk m_X12_copy.2.2.2.2.1 177 = some (.iastore) := by decide +kernel
theorem cd_X12_copy_178 : ylk m_X12_copy.2.2.2.2.1 178 = some (.iinc 6 1) := by decide +kernel
theorem cd_X12_copy_181 : ylk m_X12_copy.2.2.2.2.1 181 = some (.goto (-59)) := by decide +kernel
theorem cd_X12_copy_184 : ylk m_X12_copy.2.2.2.2.1 184 = some (.iload 5) := by decide +kernel
theorem cd_X12_copy_186 : ylk m_X12_copy.2.2.2.2.1 186 = some (.ireturn) := by decide +kernel
noncomputable abbrev yb_X12_copy (C : yC) : ySt → Option (Option Value × yM) := yrn m_X12_copy C
theorem en_X12_copy (n : Nat) (A : yM) (v0 : Nat) (v1 : Int32) (v2 : Int32) (v3 : Int32) (v4 : Int32) (v5 : Int32) : ycall (n + 1) 236 [.ref v0, .int v1, .int v2, .int v3, .int v4, .int v5] A = (yi ((ycall n) 229 [.int v1] A)).bind (fun z1 => if z1.1 = 0 then (some (some (.int (-1 : Int32)), z1.2)) else ((yi ((ycall n) 229 [.int v3] z1.2)).bind (fun z2 => if z2.1 = 0 then (some (some (.int (-1 : Int32)), z2.2)) else (ygR z2.2 v0 11 11 (fun a3 => yrd z2.2 a3 v1 (fun x4 => if x4 = 0 then (some (some (.int (-11 : Int32)), z2.2)) else (ygR z2.2 v0 11 11 (fun a5 => yrd z2.2 a5 v3 (fun x6 => if x6 = 0 then (some (some (.int (-11 : Int32)), z2.2)) else (ygR z2.2 v0 11 11 (fun a7 => yrd z2.2 a7 v1 (fun x8 => if x8 = (2 : Int32) then (ygR z2.2 v0 11 11 (fun a9 => yrd z2.2 a9 v3 (fun x10 => if x10 = (2 : Int32) then (ygR z2.2 v0 11 14 (fun a11 => yrd z2.2 a11 v1 (fun x12 => ygR z2.2 v0 11 14 (fun a13 => yrd z2.2 a13 v3 (fun x14 => if x12 = x14 then (if v5 < 0 then (some (some (.int (-13 : Int32)), z2.2)) else (if v2 < 0 then (some (some (.int (-13 : Int32)), z2.2)) else (if v4 < 0 then (some (some (.int (-13 : Int32)), z2.2)) else (ygR z2.2 v0 11 15 (fun a15 => yrd z2.2 a15 v1 (fun x16 => if (x16 - v2) < v5 then (some (some (.int (-13 : Int32)), z2.2)) else (ygR z2.2 v0 11 15 (fun a17 => yrd z2.2 a17 v3 (fun x18 => if v5 ≤ (x18 - v4) then (yb_X12_copy (ycall n) (122, [some (.ref v0), some (.int v1), some (.int v2), some (.int v3), some (.int v4), some (.int v5), some (.int (0 : Int32)), none], [], z2.2)) else (some (some (.int (-13 : Int32)), z2.2))))))))))) else (some (some (.int (-12 : Int32)), z2.2))))))) else (some (some (.int (-12 : Int32)), z2.2))))) else (some (some (.int (-12 : Int32)), z2.2)))))))))))))) := (ybig_blk 62 _).trans (z_iload_n cd_X12_copy_0 (j := 1) rfl rfl (p := 1) rfl (zgo rfl (z_cs1 cd_X12_copy_1 (zs (key := 811) (by decide)) cl_X12_c811 rfl rfl rfl rfl (p := 4) rfl (fun _ => (zgo rfl (z_if_eq cd_X12_copy_4 (p := 14) rfl (p2 := 7) rfl (zgo rfl (z_iconst cd_X12_copy_14 ki_m1 (p := 15) rfl (zgo rfl (z_iret cd_X12_copy_15 rfl)))) (zgo rfl (z_iload_n cd_X12_copy_7 (j := 3) rfl rfl (p := 8) rfl (zgo rfl (z_cs1 cd_X12_copy_8 (zs (key := 811) (by decide)) cl_X12_c811 rfl rfl rfl rfl (p := 11) rfl (fun _ => (zgo rfl (z_if_ne cd_X12_copy_11 (p := 16) rfl (p2 := 14) rfl (zgo rfl (z_iconst cd_X12_copy_14 ki_m1 (p := 15) rfl (zgo rfl (z_iret cd_X12_copy_15 rfl)))) (zgo rfl (z_aload_n cd_X12_copy_16 (j := 0) rfl rfl (p := 17) rfl (zgo rfl (z_getR cd_X12_copy_17 fd_X12_28 (p := 20) rfl (fun _ => (zgo rfl (z_iload_n cd_X12_copy_20 (j := 1) rfl rfl (p := 21) rfl (zgo rfl (z_iaload cd_X12_copy_21 (p := 22) rfl (fun _ => (zgo rfl (z_if_eq cd_X12_copy_22 (p := 34) rfl (p2 := 25) rfl (zgo rfl (z_bipush cd_X12_copy_34 kb_m11 (p := 36) rfl (zgo rfl (z_iret cd_X12_copy_36 rfl)))) (zgo rfl (z_aload_n cd_X12_copy_25 (j := 0) rfl rfl (p := 26) rfl (zgo rfl (z_getR cd_X12_copy_26 fd_X12_28 (p := 29) rfl (fun _ => (zgo rfl (z_iload_n cd_X12_copy_29 (j := 3) rfl rfl (p := 30) rfl (zgo rfl (z_iaload cd_X12_copy_30 (p := 31) rfl (fun _ => (zgo rfl (z_if_ne cd_X12_copy_31 (p := 37) rfl (p2 := 34) rfl (zgo rfl (z_bipush cd_X12_copy_34 kb_m11 (p := 36) rfl (zgo rfl (z_iret cd_X12_copy_36 rfl)))) (zgo rfl (z_aload_n cd_X12_copy_37 (j := 0) rfl rfl (p := 38) rfl (zgo rfl (z_getR cd_X12_copy_38 fd_X12_28 (p := 41) rfl (fun _ => (zgo rfl (z_iload_n cd_X12_copy_41 (j := 1) rfl rfl (p := 42) rfl (zgo rfl (z_iaload cd_X12_copy_42 (p := 43) rfl (fun _ => (zgo rfl (z_iconst cd_X12_copy_43 ki_2 (p := 44) rfl (zgo rfl (z_ic_ne cd_X12_copy_44 (p := 72) rfl (p2 := 47) rfl (zgo rfl (z_aload_n cd_X12_copy_47 (j := 0) rfl rfl (p := 48) rfl (zgo rfl (z_getR cd_X12_copy_48 fd_X12_28 (p := 51) rfl (fun _ => (zgo rfl (z_iload_n cd_X12_copy_51 (j := 3) rfl rfl (p := 52) rfl (zgo rfl (z_iaload cd_X12_copy_52 (p := 53) rfl (fun _ => (zgo rfl (z_iconst cd_X12_copy_53 ki_2 (p := 54) rfl (zgo rfl (z_ic_ne cd_X12_copy_54 (p := 72) rfl (p2 := 57) rfl (zgo rfl (z_aload_n cd_X12_copy_57 (j := 0) rfl rfl (p := 58) rfl (zgo rfl (z_getR cd_X12_copy_58 fd_X12_37 (p := 61) rfl (fun _ => (zgo rfl (z_iload_n cd_X12_copy_61 (j := 1) rfl rfl (p := 62) rfl (zgo rfl (z_iaload cd_X12_copy_62 (p := 63) rfl (fun _ => (zgo rfl (z_aload_n cd_X12_copy_63 (j := 0) rfl rfl (p := 64) rfl (zgo rfl (z_getR cd_X12_copy_64 fd_X12_37 (p := 67) rfl (fun _ => (zgo rfl (z_iload_n cd_X12_copy_67 (j := 3) rfl rfl (p := 68) rfl (zgo rfl (z_iaload cd_X12_copy_68 (p := 69) rfl (fun _ => (zgo rfl (z_ic_eq cd_X12_copy_69 (p := 75) rfl (p2 := 72) rfl (zgo rfl (z_iload cd_X12_copy_75 rfl (p := 77) rfl (zgo rfl (z_if_lt cd_X12_copy_77 (p := 116) rfl (p2 := 80) rfl (zgo rfl (z_bipush cd_X12_copy_116 kb_m13 (p := 118) rfl (zgo rfl (z_iret cd_X12_copy_118 rfl)))) (zgo rfl (z_iload_n cd_X12_copy_80 (j := 2) rfl rfl (p := 81) rfl (zgo rfl (z_if_lt cd_X12_copy_81 (p := 116) rfl (p2 := 84) rfl (zgo rfl (z_bipush cd_X12_copy_116 kb_m13 (p := 118) rfl (zgo rfl (z_iret cd_X12_copy_118 rfl)))) (zgo rfl (z_iload cd_X12_copy_84 rfl (p := 86) rfl (zgo rfl (z_if_lt cd_X12_copy_86 (p := 116) rfl (p2 := 89) rfl (zgo rfl (z_bipush cd_X12_copy_116 kb_m13 (p := 118) rfl (zgo rfl (z_iret cd_X12_copy_118 rfl)))) (zgo rfl (z_iload cd_X12_copy_89 rfl (p := 91) rfl (zgo rfl (z_aload_n cd_X12_copy_91 (j := 0) rfl rfl (p := 92) rfl (zgo rfl (z_getR cd_X12_copy_92 fd_X12_40 (p := 95) rfl (fun _ => (zgo rfl (z_iload_n cd_X12_copy_95 (j := 1) rfl rfl (p := 96) rfl (zgo rfl (z_iaload cd_X12_copy_96 (p := 97) rfl (fun _ => (zgo rfl (z_iload_n cd_X12_copy_97 (j := 2) rfl rfl (p := 98) rfl (zgo rfl (z_isub cd_X12_copy_98 (p := 99) rfl (zgo rfl (z_ic_gt cd_X12_copy_99 (p := 116) rfl (p2 := 102) rfl (zgo rfl (z_bipush cd_X12_copy_116 kb_m13 (p := 118) rfl (zgo rfl (z_iret cd_X12_copy_118 rfl)))) (zgo rfl (z_iload cd_X12_copy_102 rfl (p := 104) rfl (zgo rfl (z_aload_n cd_X12_copy_104 (j := 0) rfl rfl (p := 105) rfl (zgo rfl (z_getR cd_X12_copy_105 fd_X12_40 (p := 108) rfl (fun _ => (zgo rfl (z_iload_n cd_X12_copy_108 (j := 3) rfl rfl (p := 109) rfl (zgo rfl (z_iaload cd_X12_copy_109 (p := 110) rfl (fun _ => (zgo rfl (z_iload cd_X12_copy_110 rfl (p := 112) rfl (zgo rfl (z_isub cd_X12_copy_112 (p := 113) rfl (zgo rfl (z_ic_le cd_X12_copy_113 (p := 119) rfl (p2 := 116) rfl (zgo rfl (z_iconst cd_X12_copy_119 ki_0 (p := 120) rfl (zgo rfl (z_istore cd_X12_copy_120 rfl (p := 122) rfl (zcut (p := 122) rfl rfl))))) (zgo rfl (z_bipush cd_X12_copy_116 kb_m13 (p := 118) rfl (zgo rfl (z_iret cd_X12_copy_118 rfl)))))))))))))))))))))))))))))))))))))))))))))))))))) (zgo rfl (z_bipush cd_X12_copy_72 kb_m12 (p := 74) rfl (zgo rfl (z_iret cd_X12_copy_74 rfl)))))))))))))))))))))))))) (zgo rfl (z_bipush cd_X12_copy_72 kb_m12 (p := 74) rfl (zgo rfl (z_iret cd_X12_copy_74 rfl)))))))))))))))))) (zgo rfl (z_bipush cd_X12_copy_72 kb_m12 (p := 74) rfl (zgo rfl (z_iret cd_X12_copy_74 rfl)))))))))))))))))))))))))))))))))))))))))))))))))))))))
theorem bk_X12_copy_122 (C : yC) (A : yM) (v0 : Nat) (v1 : Int32) (v2 : Int32) (v3 : Int32) (v4 : Int32) (v5 : Int32) (v6 : Int32) : yb_X12_copy C (122, [some (.ref v0), some (.int v1), some (.int v2), some (.int v3), some (.int v4), some (.int v5), some (.int v6), none], [], A) = if v5 ≤ v6 then (some (some (.int v5), A)) else (if v2 ≤ v4 then (ygR A v0 11 16 (fun a1 => ygR A v0 11 16 (fun a2 => yrd A a2 ((((100 : Int32) * v1) + v2) + ((v5 - (1 : Int32)) - v6)) (fun x3 => ywr A a1 ((((100 : Int32) * v3) + v4) + ((v5 - (1 : Int32)) - v6)) x3 (fun A4 => yb_X12_copy C (122, [some (.ref v0), some (.int v1), some (.int v2), some (.int v3), some (.int v4), some (.int v5), some (.int (v6 + (1 : Int32))), none], [], A4)))))) else (ygR A v0 11 16 (fun a5 => ygR A v0 11 16 (fun a6 => yrd A a6 ((((100 : Int32) * v1) + v2) + v6) (fun x7 => ywr A a5 ((((100 : Int32) * v3) + v4) + v6) x7 (fun A8 => yb_X12_copy C (122, [some (.ref v0), some (.int v1), some (.int v2), some (.int v3), some (.int v4), some (.int v5), some (.int (v6 + (1 : Int32))), none], [], A8))))))) := (ybig_blk 35 _).trans (z_iload cd_X12_copy_122 rfl (p := 124) rfl (zgo rfl (z_iload cd_X12_copy_124 rfl (p := 126) rfl (zgo rfl (z_ic_ge cd_X12_copy_126 (p := 184) rfl (p2 := 129) rfl (zgo rfl (z_iload cd_X12_copy_184 rfl (p := 186) rfl (zgo rfl (z_iret cd_X12_copy_186 rfl)))) (zgo rfl (z_iload_n cd_X12_copy_129 (j := 2) rfl rfl (p := 130) rfl (zgo rfl (z_iload cd_X12_copy_130 rfl (p := 132) rfl (zgo rfl (z_ic_le cd_X12_copy_132 (p := 140) rfl (p2 := 135) rfl (zgo rfl (z_iload cd_X12_copy_140 rfl (p := 142) rfl (zgo rfl (z_iconst cd_X12_copy_142 ki_1 (p := 143) rfl (zgo rfl (z_isub cd_X12_copy_143 (p := 144) rfl (zgo rfl (z_iload cd_X12_copy_144 rfl (p := 146) rfl (zgo rfl (z_isub cd_X12_copy_146 (p := 147) rfl (zgo rfl (z_istore cd_X12_copy_147 rfl (p := 149) rfl (zgo rfl (z_aload_n cd_X12_copy_149 (j := 0) rfl rfl (p := 150) rfl (zgo rfl (z_getR cd_X12_copy_150 fd_X12_43 (p := 153) rfl (fun _ => (zgo rfl (z_bipush cd_X12_copy_153 kb_100 (p := 155) rfl (zgo rfl (z_iload_n cd_X12_copy_155 (j := 3) rfl rfl (p := 156) rfl (zgo rfl (z_imul cd_X12_copy_156 (p := 157) rfl (zgo rfl (z_iload cd_X12_copy_157 rfl (p := 159) rfl (zgo rfl (z_iadd cd_X12_copy_159 (p := 160) rfl (zgo rfl (z_iload cd_X12_copy_160 rfl (p := 162) rfl (zgo rfl (z_iadd cd_X12_copy_162 (p := 163) rfl (zgo rfl (z_aload_n cd_X12_copy_163 (j := 0) rfl rfl (p := 164) rfl (zgo rfl (z_getR cd_X12_copy_164 fd_X12_43 (p := 167) rfl (fun _ => (zgo rfl (z_bipush cd_X12_copy_167 kb_100 (p := 169) rfl (zgo rfl (z_iload_n cd_X12_copy_169 (j := 1) rfl rfl (p := 170) rfl (zgo rfl (z_imul cd_X12_copy_170 (p := 171) rfl (zgo rfl (z_iload_n cd_X12_copy_171 (j := 2) rfl rfl (p := 172) rfl (zgo rfl (z_iadd cd_X12_copy_172 (p := 173) rfl (zgo rfl (z_iload cd_X12_copy_173 rfl (p := 175) rfl (zgo rfl (z_iadd cd_X12_copy_175 (p := 176) rfl (zgo rfl (z_iaload cd_X12_copy_176 (p := 177) rfl (fun _ => (zgo rfl (z_iastore cd_X12_copy_177 (p := 178) rfl (fun _ => (zgo rfl (z_iinc cd_X12_copy_178 ki_1 rfl rfl (p := 181) rfl (zgo rfl (z_goto cd_X12_copy_181 (p := 122) rfl (zcut (p := 122) rfl rfl))))))))))))))))))))))))))))))))))))))))))))))))))))))))))))) (zgo rfl (z_iload cd_X12_copy_135 rfl (p := 137) rfl (zgo rfl (z_goto cd_X12_copy_137 (p := 147) rfl (zgo rfl (z_istore cd_X12_copy_147 rfl (p := 149) rfl (zgo rfl (z_aload_n cd_X12_copy_149 (j := 0) rfl rfl (p := 150) rfl (zgo rfl (z_getR cd_X12_copy_150 fd_X12_43 (p := 153) rfl (fun _ => (zgo rfl (z_bipush cd_X12_copy_153 kb_100 (p := 155) rfl (zgo rfl (z_iload_n cd_X12_copy_155 (j := 3) rfl rfl (p := 156) rfl (zgo rfl (z_imul cd_X12_copy_156 (p := 157) rfl (zgo rfl (z_iload cd_X12_copy_157 rfl (p := 159) rfl (zgo rfl (z_iadd cd_X12_copy_159 (p := 160) rfl (zgo rfl (z_iload cd_X12_copy_160 rfl (p := 162) rfl (zgo rfl (z_iadd cd_X12_copy_162 (p := 163) rfl (zgo rfl (z_aload_n cd_X12_copy_163 (j := 0) rfl rfl (p := 164) rfl (zgo rfl (z_getR cd_X12_copy_164 fd_X12_43 (p := 167) rfl (fun _ => (zgo rfl (z_bipush cd_X12_copy_167 kb_100 (p := 169) rfl (zgo rfl (z_iload_n cd_X12_copy_169 (j := 1) rfl rfl (p := 170) rfl (zgo rfl (z_imul cd_X12_copy_170 (p := 171) rfl (zgo rfl (z_iload_n cd_X12_copy_171 (j := 2) rfl rfl (p := 172) rfl (zgo rfl (z_iadd cd_X12_copy_172 (p := 173) rfl (zgo rfl (z_iload cd_X12_copy_173 rfl (p := 175) rfl (zgo rfl (z_iadd cd_X12_copy_175 (p := 176) rfl (zgo rfl (z_iaload cd_X12_copy_176 (p := 177) rfl (fun _ => (zgo rfl (z_iastore cd_X12_copy_177 (p := 178) rfl (fun _ => (zgo rfl (z_iinc cd_X12_copy_178 ki_1 rfl rfl (p := 181) rfl (zgo rfl (z_goto cd_X12_copy_181 (p := 122) rfl (zcut (p := 122) rfl rfl))))))))))))))))))))))))))))))))))))))))))))))))))))))))))))))))))
theorem cd_X12_costBy_0 : ylk m_X12_costBy.2.2.2.2.1 0 = some (.iload_n 0) := by decide +kernel
theorem cd_X12_costBy_1 : ylk m_X12_costBy.2.2.2.2.1 1 = some (.tableswitch 61 1 7 #[43, 45, 49, 45, 52, 54, 59]) := by decide +kernel
theorem cd_X12_costBy_44 : ylk m_X12_costBy.2.2.2.2.1 44 = some (.iconst 5) := by decide +kernel
theorem cd_X12_costBy_45 : ylk m_X12_costBy.2.2.2.2.1 45 = some (.ireturn) := by decide +kernel
theorem cd_X12_costBy_46 : ylk m_X12_costBy.2.2.2.2.1 46 = some (.iconst 1) := by decide +kernel
theorem cd_X12_costBy_47 : ylk m_X12_costBy.2.2.2.2.1 47 = some (.iload_n 1) := by decide +kernel
theorem cd_X12_costBy_48 : ylk m_X12_costBy.2.2.2.2.1 48 = some (.iadd) := by decide +kernel
theorem cd_X12_costBy_49 : ylk m_X12_costBy.2.2.2.2.1 49 = some (.ireturn) := by decide +kernel
theorem cd_X12_costBy_50 : ylk m_X12_costBy.2.2.2.2.1 50 = some (.bipush 10) := by decide +kernel
theorem cd_X12_costBy_52 : ylk m_X12_costBy.2.2.2.2.1 52 = some (.ireturn) := by decide +kernel
theorem cd_X12_costBy_53 : ylk m_X12_costBy.2.2.2.2.1 53 = some (.iconst 3) := by decide +kernel
theorem cd_X12_costBy_54 : ylk m_X12_costBy.2.2.2.2.1 54 = some (.ireturn) := by decide +kernel
theorem cd_X12_costBy_55 : ylk m_X12_costBy.2.2.2.2.1 55 = some (.bipush 10) := by decide +kernel
theorem cd_X12_costBy_57 : ylk m_X12_costBy.2.2.2.2.1 57 = some (.iload_n 1) := by decide +kernel
theorem cd_X12_costBy_58 : ylk m_X12_costBy.2.2.2.2.1 58 = some (.iadd) := by decide +kernel
theorem cd_X12_costBy_59 : ylk m_X12_costBy.2.2.2.2.1 59 = some (.ireturn) := by decide +kernel
theorem cd_X12_costBy_60 : ylk m_X12_costBy.2.2.2.2.1 60 = some (.iconst 0) := by decide +kernel
theorem cd_X12_costBy_61 : ylk m_X12_costBy.2.2.2.2.1 61 = some (.ireturn) := by decide +kernel
theorem cd_X12_costBy_62 : ylk m_X12_costBy.2.2.2.2.1 62 = some (.iconst 1) := by decide +kernel
theorem cd_X12_costBy_63 : ylk m_X12_costBy.2.2.2.2.1 63 = some (.ireturn) := by decide +kernel
noncomputable abbrev yb_X12_costBy (C : yC) : ySt → Option (Option Value × yM) := yrn m_X12_costBy C
theorem en_X12_costBy (n : Nat) (A : yM) (v0 : Int32) (v1 : Int32) : ycall (n + 1) 237 [.int v0, .int v1] A = (if v0 = (1 : Int32) then (some (some (.int (5 : Int32)), A)) else (if v0 = (2 : Int32) then (some (some (.int ((1 : Int32) + v1)), A)) else (if v0 = (3 : Int32) then (some (some (.int (10 : Int32)), A)) else (if v0 = (4 : Int32) then (some (some (.int ((1 : Int32) + v1)), A)) else (if v0 = (5 : Int32) then (some (some (.int (3 : Int32)), A)) else (if v0 = (6 : Int32) then (some (some (.int ((10 : Int32) + v1)), A)) else (if v0 = (7 : Int32) then (some (some (.int (0 : Int32)), A)) else (some (some (.int (1 : Int32)), A))))))))) := (ybig_blk 7 _).trans (z_iload_n cd_X12_costBy_0 (j := 0) rfl rfl (p := 1) rfl (zgo rfl (z_sw cd_X12_costBy_1 (p := 62) rfl (ps := [(1, 44), (2, 46), (3, 50), (4, 46), (5, 53), (6, 55), (7, 60)]) rfl (z_swc ki_1 (zgo rfl (z_iconst cd_X12_costBy_44 ki_5 (p := 45) rfl (zgo rfl (z_iret cd_X12_costBy_45 rfl)))) (z_swc ki_2 (zgo rfl (z_iconst cd_X12_costBy_46 ki_1 (p := 47) rfl (zgo rfl (z_iload_n cd_X12_costBy_47 (j := 1) rfl rfl (p := 48) rfl (zgo rfl (z_iadd cd_X12_costBy_48 (p := 49) rfl (zgo rfl (z_iret cd_X12_costBy_49 rfl)))))))) (z_swc ki_3 (zgo rfl (z_bipush cd_X12_costBy_50 kb_10 (p := 52) rfl (zgo rfl (z_iret cd_X12_costBy_52 rfl)))) (z_swc ki_4 (zgo rfl (z_iconst cd_X12_costBy_46 ki_1 (p := 47) rfl (zgo rfl (z_iload_n cd_X12_costBy_47 (j := 1) rfl rfl (p := 48) rfl (zgo rfl (z_iadd cd_X12_costBy_48 (p := 49) rfl (zgo rfl (z_iret cd_X12_costBy_49 rfl)))))))) (z_swc ki_5 (zgo rfl (z_iconst cd_X12_costBy_53 ki_3 (p := 54) rfl (zgo rfl (z_iret cd_X12_costBy_54 rfl)))) (z_swc ki_6 (zgo rfl (z_bipush cd_X12_costBy_55 kb_10 (p := 57) rfl (zgo rfl (z_iload_n cd_X12_costBy_57 (j := 1) rfl rfl (p := 58) rfl (zgo rfl (z_iadd cd_X12_costBy_58 (p := 59) rfl (zgo rfl (z_iret cd_X12_costBy_59 rfl)))))))) (z_swc ki_7 (zgo rfl (z_iconst cd_X12_costBy_60 ki_0 (p := 61) rfl (zgo rfl (z_iret cd_X12_costBy_61 rfl)))) (z_swn (zgo rfl (z_iconst cd_X12_costBy_62 ki_1 (p := 63) rfl (zgo rfl (z_iret cd_X12_costBy_63 rfl)))))))))))))))
theorem cd_X12_cost_0 : ylk m_X12_cost.2.2.2.2.1 0 = some (.aload_n 0) := by decide +kernel
theorem cd_X12_cost_1 : ylk m_X12_cost.2.2.2.2.1 1 = some (.iload_n 1) := by decide +kernel
theorem cd_X12_cost_2 : ylk m_X12_cost.2.2.2.2.1 2 = some (.invokevirtual 157) := by decide +kernel
theorem cd_X12_cost_5 : ylk m_X12_cost.2.2.2.2.1 5 = some (.istore_n 2) := by decide +kernel
theorem cd_X12_cost_6 : ylk m_X12_cost.2.2.2.2.1 6 = some (.iload_n 2) := by decide +kernel
theorem cd_X12_cost_7 : ylk m_X12_cost.2.2.2.2.1 7 = some (.ifCond .eq 7) := by decide +kernel
theorem cd_X12_cost_10 : ylk m_X12_cost.2.2.2.2.1 10 = some (.iload_n 2) := by decide +kernel
theorem cd_X12_cost_11 : ylk m_X12_cost.2.2.2.2.1 11 = some (.goto 18) := by decide +kernel
theorem cd_X12_cost_14 : ylk m_X12_cost.2.2.2.2.1 14 = some (.aload_n 0) := by decide +kernel
theorem cd_X12_cost_15 : ylk m_X12_cost.2.2.2.2.1 15 = some (.getfield 31) := by decide +kernel
theorem cd_X12_cost_18 : ylk m_X12_cost.2.2.2.2.1 18 = some (.iload_n 1) := by decide +kernel
theorem cd_X12_cost_19 : ylk m_X12_cost.2.2.2.2.1 19 = some (.iaload) := by decide +kernel
theorem cd_X12_cost_20 : ylk m_X12_cost.2.2.2.2.1 20 = some (.aload_n 0) := by decide +kernel
theorem cd_X12_cost_21 : ylk m_X12_cost.2.2.2.2.1 21 = some (.getfield 34) := by decide +kernel
theorem cd_X12_cost_24 : ylk m_X12_cost.2.2.2.2.1 24 = some (.iload_n 1) := by decide +kernel
theorem cd_X12_cost_25 : ylk m_X12_cost.2.2.2.2.1 25 = some (.iaload) := by decide +kernel
theorem cd_X12_cost_26 : ylk m_X12_cost.2.2.2.2.1 26 = some (.invokestatic 273) := by decide +kernel
theorem cd_X12_cost_29 : ylk m_X12_cost.2.2.2.2.1 29 = some (.ireturn) := by decide +kernel
noncomputable abbrev yb_X12_cost (C : yC) : ySt → Option (Option Value × yM) := yrn m_X12_cost C
theorem en_X12_cost (n : Nat) (A : yM) (v0 : Nat) (v1 : Int32) : ycall (n + 1) 238 [.ref v0, .int v1] A = (yi (yvt [(11, 231)] (ycall n) [.ref v0, .int v1] A)).bind (fun z1 => if z1.1 = 0 then (ygR z1.2 v0 11 12 (fun a2 => yrd z1.2 a2 v1 (fun x3 => ygR z1.2 v0 11 13 (fun a4 => yrd z1.2 a4 v1 (fun x5 => (yi ((ycall n) 237 [.int x3, .int x5] z1.2)).bind (fun z6 => some (some (.int z6.1), z6.2))))))) else (some (some (.int z1.1), z1.2))) := (ybig_blk 17 _).trans (z_aload_n cd_X12_cost_0 (j := 0) rfl rfl (p := 1) rfl (zgo rfl (z_iload_n cd_X12_cost_1 (j := 1) rfl rfl (p := 2) rfl (zgo rfl (z_cv1 cd_X12_cost_2 (zv (key := 471) (by decide)) cl_X12_c471 rfl rfl rfl rfl (p := 5) rfl (fun _ => (zgo rfl (z_istore_n cd_X12_cost_5 (j := 2) rfl rfl (p := 6) rfl (zgo rfl (z_iload_n cd_X12_cost_6 (j := 2) rfl rfl (p := 7) rfl (zgo rfl (z_if_eq cd_X12_cost_7 (p := 14) rfl (p2 := 10) rfl (zgo rfl (z_aload_n cd_X12_cost_14 (j := 0) rfl rfl (p := 15) rfl (zgo rfl (z_getR cd_X12_cost_15 fd_X12_31 (p := 18) rfl (fun _ => (zgo rfl (z_iload_n cd_X12_cost_18 (j := 1) rfl rfl (p := 19) rfl (zgo rfl (z_iaload cd_X12_cost_19 (p := 20) rfl (fun _ => (zgo rfl (z_aload_n cd_X12_cost_20 (j := 0) rfl rfl (p := 21) rfl (zgo rfl (z_getR cd_X12_cost_21 fd_X12_34 (p := 24) rfl (fun _ => (zgo rfl (z_iload_n cd_X12_cost_24 (j := 1) rfl rfl (p := 25) rfl (zgo rfl (z_iaload cd_X12_cost_25 (p := 26) rfl (fun _ => (zgo rfl (z_cs1 cd_X12_cost_26 (zs (key := 820) (by decide)) cl_X12_c820 rfl rfl rfl rfl (p := 29) rfl (fun _ => (zgo rfl (z_iret cd_X12_cost_29 rfl))))))))))))))))))))))))) (zgo rfl (z_iload_n cd_X12_cost_10 (j := 2) rfl rfl (p := 11) rfl (zgo rfl (z_goto cd_X12_cost_11 (p := 29) rfl (zgo rfl (z_iret cd_X12_cost_29 rfl))))))))))))))))))
theorem cd_X12_toss_0 : ylk m_X12_toss.2.2.2.2.1 0 = some (.aload_n 0) := by decide +kernel
theorem cd_X12_toss_1 : ylk m_X12_toss.2.2.2.2.1 1 = some (.iload_n 1) := by decide +kernel
theorem cd_X12_toss_2 : ylk m_X12_toss.2.2.2.2.1 2 = some (.invokevirtual 157) := by decide +kernel
theorem cd_X12_toss_5 : ylk m_X12_toss.2.2.2.2.1 5 = some (.istore_n 2) := by decide +kernel
theorem cd_X12_toss_6 : ylk m_X12_toss.2.2.2.2.1 6 = some (.iload_n 2) := by decide +kernel
theorem cd_X12_toss_7 : ylk m_X12_toss.2.2.2.2.1 7 = some (.ifCond .eq 5) := by decide +kernel
theorem cd_X12_toss_10 : ylk m_X12_toss.2.2.2.2.1 10 = some (.iload_n 2) := by decide +kernel
theorem cd_X12_toss_11 : ylk m_X12_toss.2.2.2.2.1 11 = some (.ireturn) := by decide +kernel
theorem cd_X12_toss_12 : ylk m_X12_toss.2.2.2.2.1 12 = some (.aload_n 0) := by decide +kernel
theorem cd_X12_toss_13 : ylk m_X12_toss.2.2.2.2.1 13 = some (.getfield 31) := by decide +kernel
theorem cd_X12_toss_16 : ylk m_X12_toss.2.2.2.2.1 16 = some (.iload_n 1) := by decide +kernel
theorem cd_X12_toss_17 : ylk m_X12_toss.2.2.2.2.1 17 = some (.iaload) := by decide +kernel
theorem cd_X12_toss_18 : ylk m_X12_toss.2.2.2.2.1 18 = some (.istore_n 3) := by decide +kernel
theorem cd_X12_toss_19 : ylk m_X12_toss.2.2.2.2.1 19 = some (.aload_n 0) := by decide +kernel
theorem cd_X12_toss_20 : ylk m_X12_toss.2.2.2.2.1 20 = some (.getfield 34) := by decide +kernel
theorem cd_X12_toss_23 : ylk m_X12_toss.2.2.2.2.1 23 = some (.iload_n 1) := by decide +kernel
theorem cd_X12_toss_24 : ylk m_X12_toss.2.2.2.2.1 24 = some (.iaload) := by decide +kernel
theorem cd_X12_toss_25 : ylk m_X12_toss.2.2.2.2.1 25 = some (.istore 4) := by decide +kernel
theorem cd_X12_toss_27 : ylk m_X12_toss.2.2.2.2.1 27 = some (.iload_n 3) := by decide +kernel
theorem cd_X12_toss_28 : ylk m_X12_toss.2.2.2.2.1 28 = some (.iconst 2) := by decide +kernel
theorem cd_X12_toss_29 : ylk m_X12_toss.2.2.2.2.1 29 = some (.if_icmp .eq 13) := by decide +kernel
theorem cd_X12_toss_32 : ylk m_X12_toss.2.2.2.2.1 32 = some (.iload_n 3) := by decide +kernel
theorem cd_X12_toss_33 : ylk m_X12_toss.2.2.2.2.1 33 = some (.iconst 4) := by decide +kernel
theorem cd_X12_toss_34 : ylk m_X12_toss.2.2.2.2.1 34 = some (.if_icmp .eq 8) := by decide +kernel
theorem cd_X12_toss_37 : ylk m_X12_toss.2.2.2.2.1 37 = some (.iload 4) := by decide +kernel
theorem cd_X12_toss_39 : ylk m_X12_toss.2.2.2.2.1 39 = some (.ifCond .ne 6) := by decide +kernel
theorem cd_X12_toss_42 : ylk m_X12_toss.2.2.2.2.1 42 = some (.bipush (-15)) := by decide +kernel
theorem cd_X12_toss_44 : ylk m_X12_toss.2.2.2.2.1 44 = some (.ireturn) := by decide +kernel
theorem cd_X12_toss_45 : ylk m_X12_toss.2.2.2.2.1 45 = some (.iload_n 3) := by decide +kernel
theorem cd_X12_toss_46 : ylk m_X12_toss.2.2.2.2.1 46 = some (.bipush 6) := by decide +kernel
theorem cd_X12_toss_48 : ylk m_X12_toss.2.2.2.2.1 48 = some (.if_icmp .ne 16) := by decide +kernel
theorem cd_X12_toss_51 : ylk m_X12_toss.2.2.2.2.1 51 = some (.sipush 200) := by decide +kernel
theorem cd_X12_toss_54 : ylk m_X12_toss.2.2.2.2.1 54 = some (.iload_n 3) := by decide +kernel
theorem cd_X12_toss_55 : ylk m_X12_toss.2.2.2.2.1 55 = some (.iload 4) := by decide +kernel
theorem cd_X12_toss_57 : ylk m_X12_toss.2.2.2.2.1 57 = some (.invokestatic 273) := by decide +kernel
theorem cd_X12_toss_60 : ylk m_X12_toss.2.2.2.2.1 60 = some (.iadd) := by decide +kernel
theorem cd_X12_toss_61 : ylk m_X12_toss.2.2.2.2.1 61 = some (.goto 28) := by decide +kernel
theorem cd_X12_toss_64 : ylk m_X12_toss.2.2.2.2.1 64 = some (.iload_n 3) := by decide +kernel
theorem cd_X12_toss_65 : ylk m_X12_toss.2.2.2.2.1 65 = some (.iconst 1) := by decide +kernel
theorem cd_X12_toss_66 : ylk m_X12_toss.2.2.2.2.1 66 = some (.if_icmp .eq 13) := by decide +kernel
theorem cd_X12_toss_69 : ylk m_X12_toss.2.2.2.2.1 69 = some (.iload_n 3) := by decide +kernel
theorem cd_X12_toss_70 : ylk m_X12_toss.2.2.2.2.1 70 = some (.iconst 3) := by decide +kernel
theorem cd_X12_toss_71 : ylk m_X12_toss.2.2.2.2.1 71 = some (.if_icmp .eq 8) := by decide +kernel
theorem cd_X12_toss_74 : ylk m_X12_toss.2.2.2.2.1 74 = some (.iload_n 3) := by decide +kernel
theorem cd_X12_toss_75 : ylk m_X12_toss.2.2.2.2.1 75 = some (.iconst 5) := by decide +kernel
theorem cd_X12_toss_76 : ylk m_X12_toss.2.2.2.2.1 76 = some (.if_icmp .ne 11) := by decide +kernel
theorem cd_X12_toss_79 : ylk m_X12_toss.2.2.2.2.1 79 = some (.bipush 100) := by decide +kernel
theorem cd_X12_toss_81 : ylk m_X12_toss.2.2.2.2.1 81 = some (.iload 4) := by decide +kernel
theorem cd_X12_toss_83 : ylk m_X12_toss.2.2.2.2.1 83 = some (.iadd) := by decide +kernel
theorem cd_X12_toss_84 : ylk m_X12_toss.2.2.2.2.1 84 = some (.goto 5) := by decide +kernel
theorem cd_X12_toss_87 : ylk m_X12_toss.2.2.2.2.1 87 = some (.iload 4) := by decide +kernel
theorem cd_X12_toss_89 : ylk m_X12_toss.2.2.2.2.1 89 = some (.ireturn) := by decide +kernel
noncomputable abbrev yb_X12_toss (C : yC) : ySt → Option (Option Value × yM) := yrn m_X12_toss C
theorem en_X12_toss (n : Nat) (A : yM) (v0 : Nat) (v1 : Int32) : ycall (n + 1) 239 [.ref v0, .int v1] A = (yi (yvt [(11, 231)] (ycall n) [.ref v0, .int v1] A)).bind (fun z1 => if z1.1 = 0 then (ygR z1.2 v0 11 12 (fun a2 => yrd z1.2 a2 v1 (fun x3 => ygR z1.2 v0 11 13 (fun a4 => yrd z1.2 a4 v1 (fun x5 => if x3 = (2 : Int32) then (some (some (.int (-15 : Int32)), z1.2)) else (if x3 = (4 : Int32) then (some (some (.int (-15 : Int32)), z1.2)) else (if x5 = 0 then (some (some (.int (-15 : Int32)), z1.2)) else (if x3 = (6 : Int32) then ((yi ((ycall n) 237 [.int x3, .int x5] z1.2)).bind (fun z6 => some (some (.int ((200 : Int32) + z6.1)), z6.2))) else (if x3 = (1 : Int32) then (some (some (.int ((100 : Int32) + x5)), z1.2)) else (if x3 = (3 : Int32) then (some (some (.int ((100 : Int32) + x5)), z1.2)) else (if x3 = (5 : Int32) then (some (some (.int ((100 : Int32) + x5)), z1.2)) else (some (some (.int x5), z1.2))))))))))))) else (some (some (.int z1.1), z1.2))) := (ybig_blk 42 _).trans (z_aload_n cd_X12_toss_0 (j := 0) rfl rfl (p := 1) rfl (zgo rfl (z_iload_n cd_X12_toss_1 (j := 1) rfl rfl (p := 2) rfl (zgo rfl (z_cv1 cd_X12_toss_2 (zv (key := 471) (by decide)) cl_X12_c471 rfl rfl rfl rfl (p := 5) rfl (fun _ => (zgo rfl (z_istore_n cd_X12_toss_5 (j := 2) rfl rfl (p := 6) rfl (zgo rfl (z_iload_n cd_X12_toss_6 (j := 2) rfl rfl (p := 7) rfl (zgo rfl (z_if_eq cd_X12_toss_7 (p := 12) rfl (p2 := 10) rfl (zgo rfl (z_aload_n cd_X12_toss_12 (j := 0) rfl rfl (p := 13) rfl (zgo rfl (z_getR cd_X12_toss_13 fd_X12_31 (p := 16) rfl (fun _ => (zgo rfl (z_iload_n cd_X12_toss_16 (j := 1) rfl rfl (p := 17) rfl (zgo rfl (z_iaload cd_X12_toss_17 (p := 18) rfl (fun _ => (zgo rfl (z_istore_n cd_X12_toss_18 (j := 3) rfl rfl (p := 19) rfl (zgo rfl (z_aload_n cd_X12_toss_19 (j := 0) rfl rfl (p := 20) rfl (zgo rfl (z_getR cd_X12_toss_20 fd_X12_34 (p := 23) rfl (fun _ => (zgo rfl (z_iload_n cd_X12_toss_23 (j := 1) rfl rfl (p := 24) rfl (zgo rfl (z_iaload cd_X12_toss_24 (p := 25) rfl (fun _ => (zgo rfl (z_istore cd_X12_toss_25 rfl (p := 27) rfl (zgo rfl (z_iload_n cd_X12_toss_27 (j := 3) rfl rfl (p := 28) rfl (zgo rfl (z_iconst cd_X12_toss_28 ki_2 (p := 29) rfl (zgo rfl (z_ic_eq cd_X12_toss_29 (p := 42) rfl (p2 := 32) rfl (zgo rfl (z_bipush cd_X12_toss_42 kb_m15 (p := 44) rfl (zgo rfl (z_iret cd_X12_toss_44 rfl)))) (zgo rfl (z_iload_n cd_X12_toss_32 (j := 3) rfl rfl (p := 33) rfl (zgo rfl (z_iconst cd_X12_toss_33 ki_4 (p := 34) rfl (zgo rfl (z_ic_eq cd_X12_toss_34 (p := 42) rfl (p2 := 37) rfl (zgo rfl (z_bipush cd_X12_toss_42 kb_m15 (p := 44) rfl (zgo rfl (z_iret cd_X12_toss_44 rfl)))) (zgo rfl (z_iload cd_X12_toss_37 rfl (p := 39) rfl (zgo rfl (z_if_ne cd_X12_toss_39 (p := 45) rfl (p2 := 42) rfl (zgo rfl (z_bipush cd_X12_toss_42 kb_m15 (p := 44) rfl (zgo rfl (z_iret cd_X12_toss_44 rfl)))) (zgo rfl (z_iload_n cd_X12_toss_45 (j := 3) rfl rfl (p := 46) rfl (zgo rfl (z_bipush cd_X12_toss_46 kb_6 (p := 48) rfl (zgo rfl (z_ic_ne cd_X12_toss_48 (p := 64) rfl (p2 := 51) rfl (zgo rfl (z_sipush cd_X12_toss_51 ks_200 (p := 54) rfl (zgo rfl (z_iload_n cd_X12_toss_54 (j := 3) rfl rfl (p := 55) rfl (zgo rfl (z_iload cd_X12_toss_55 rfl (p := 57) rfl (zgo rfl (z_cs1 cd_X12_toss_57 (zs (key := 820) (by decide)) cl_X12_c820 rfl rfl rfl rfl (p := 60) rfl (fun _ => (zgo rfl (z_iadd cd_X12_toss_60 (p := 61) rfl (zgo rfl (z_goto cd_X12_toss_61 (p := 89) rfl (zgo rfl (z_iret cd_X12_toss_89 rfl))))))))))))))) (zgo rfl (z_iload_n cd_X12_toss_64 (j := 3) rfl rfl (p := 65) rfl (zgo rfl (z_iconst cd_X12_toss_65 ki_1 (p := 66) rfl (zgo rfl (z_ic_eq cd_X12_toss_66 (p := 79) rfl (p2 := 69) rfl (zgo rfl (z_bipush cd_X12_toss_79 kb_100 (p := 81) rfl (zgo rfl (z_iload cd_X12_toss_81 rfl (p := 83) rfl (zgo rfl (z_iadd cd_X12_toss_83 (p := 84) rfl (zgo rfl (z_goto cd_X12_toss_84 (p := 89) rfl (zgo rfl (z_iret cd_X12_toss_89 rfl)))))))))) (zgo rfl (z_iload_n cd_X12_toss_69 (j := 3) rfl rfl (p := 70) rfl (zgo rfl (z_iconst cd_X12_toss_70 ki_3 (p := 71) rfl (zgo rfl (z_ic_eq cd_X12_toss_71 (p := 79) rfl (p2 := 74) rfl (zgo rfl (z_bipush cd_X12_toss_79 kb_100 (p := 81) rfl (zgo rfl (z_iload cd_X12_toss_81 rfl (p := 83) rfl (zgo rfl (z_iadd cd_X12_toss_83 (p := 84) rfl (zgo rfl (z_goto cd_X12_toss_84 (p := 89) rfl (zgo rfl (z_iret cd_X12_toss_89 rfl)))))))))) (zgo rfl (z_iload_n cd_X12_toss_74 (j := 3) rfl rfl (p := 75) rfl (zgo rfl (z_iconst cd_X12_toss_75 ki_5 (p := 76) rfl (zgo rfl (z_ic_ne cd_X12_toss_76 (p := 87) rfl (p2 := 79) rfl (zgo rfl (z_bipush cd_X12_toss_79 kb_100 (p := 81) rfl (zgo rfl (z_iload cd_X12_toss_81 rfl (p := 83) rfl (zgo rfl (z_iadd cd_X12_toss_83 (p := 84) rfl (zgo rfl (z_goto cd_X12_toss_84 (p := 89) rfl (zgo rfl (z_iret cd_X12_toss_89 rfl)))))))))) (zgo rfl (z_iload cd_X12_toss_87 rfl (p := 89) rfl (zgo rfl (z_iret cd_X12_toss_89 rfl)))))))))))))))))))))))))))))))))))))))))))))))))))))))))))))))))))) (zgo rfl (z_iload_n cd_X12_toss_10 (j := 2) rfl rfl (p := 11) rfl (zgo rfl (z_iret cd_X12_toss_11 rfl))))))))))))))))
