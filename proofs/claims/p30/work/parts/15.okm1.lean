theorem dL_sets_0 : decode cL_sets 0 = .ok (.bipush 29, 2) := by decide +kernel
theorem dL_sets_2 : decode cL_sets 2 = .ok (.newarray .int, 2) := by decide +kernel
theorem dL_sets_4 : decode cL_sets 4 = .ok (.astore_n 2, 1) := by decide +kernel
theorem dL_sets_5 : decode cL_sets 5 = .ok (.iconst 0, 1) := by decide +kernel
theorem dL_sets_6 : decode cL_sets 6 = .ok (.istore_n 3, 1) := by decide +kernel
theorem dL_sets_7 : decode cL_sets 7 = .ok (.aload_n 0, 1) := by decide +kernel
theorem dL_sets_8 : decode cL_sets 8 = .ok (.iload_n 1, 1) := by decide +kernel
theorem dL_sets_9 : decode cL_sets 9 = .ok (.iconst 0, 1) := by decide +kernel
theorem dL_sets_10 : decode cL_sets 10 = .ok (.invokevirtual 23, 3) := by decide +kernel
theorem dL_sets_13 : decode cL_sets 13 = .ok (.istore 4, 2) := by decide +kernel
theorem dL_sets_15 : decode cL_sets 15 = .ok (.aload_n 0, 1) := by decide +kernel
theorem dL_sets_16 : decode cL_sets 16 = .ok (.iload_n 1, 1) := by decide +kernel
theorem dL_sets_17 : decode cL_sets 17 = .ok (.iconst 3, 1) := by decide +kernel
theorem dL_sets_18 : decode cL_sets 18 = .ok (.invokevirtual 23, 3) := by decide +kernel
theorem dL_sets_21 : decode cL_sets 21 = .ok (.ifCond .ne 7, 3) := by decide +kernel
theorem dL_sets_24 : decode cL_sets 24 = .ok (.iconst 1, 1) := by decide +kernel
theorem dL_sets_25 : decode cL_sets 25 = .ok (.goto 4, 3) := by decide +kernel
theorem dL_sets_28 : decode cL_sets 28 = .ok (.iconst 0, 1) := by decide +kernel
theorem dL_sets_29 : decode cL_sets 29 = .ok (.istore 5, 2) := by decide +kernel
theorem dL_sets_31 : decode cL_sets 31 = .ok (.iconst 0, 1) := by decide +kernel
theorem dL_sets_32 : decode cL_sets 32 = .ok (.istore 6, 2) := by decide +kernel
theorem dL_sets_34 : decode cL_sets 34 = .ok (.iload 6, 2) := by decide +kernel
theorem dL_sets_36 : decode cL_sets 36 = .ok (.bipush 29, 2) := by decide +kernel
theorem dL_sets_38 : decode cL_sets 38 = .ok (.if_icmp .ge 102, 3) := by decide +kernel
theorem dL_sets_41 : decode cL_sets 41 = .ok (.iconst 0, 1) := by decide +kernel
theorem dL_sets_42 : decode cL_sets 42 = .ok (.istore 7, 2) := by decide +kernel
theorem dL_sets_44 : decode cL_sets 44 = .ok (.aload_n 2, 1) := by decide +kernel
theorem dL_sets_45 : decode cL_sets 45 = .ok (.iload 6, 2) := by decide +kernel
theorem dL_sets_47 : decode cL_sets 47 = .ok (.aload_n 0, 1) := by decide +kernel
theorem dL_sets_48 : decode cL_sets 48 = .ok (.iload_n 1, 1) := by decide +kernel
theorem dL_sets_49 : decode cL_sets 49 = .ok (.iload 6, 2) := by decide +kernel
theorem dL_sets_51 : decode cL_sets 51 = .ok (.invokevirtual 77, 3) := by decide +kernel
theorem dL_sets_54 : decode cL_sets 54 = .ok (.iastore, 1) := by decide +kernel
theorem dL_sets_55 : decode cL_sets 55 = .ok (.iconst 0, 1) := by decide +kernel
theorem dL_sets_56 : decode cL_sets 56 = .ok (.istore 8, 2) := by decide +kernel
theorem dL_sets_58 : decode cL_sets 58 = .ok (.iload 8, 2) := by decide +kernel
theorem dL_sets_60 : decode cL_sets 60 = .ok (.aload_n 0, 1) := by decide +kernel
theorem dL_sets_61 : decode cL_sets 61 = .ok (.iconst 0, 1) := by decide +kernel
theorem dL_sets_62 : decode cL_sets 62 = .ok (.invokevirtual 13, 3) := by decide +kernel
theorem dL_sets_65 : decode cL_sets 65 = .ok (.if_icmp .ge 22, 3) := by decide +kernel
theorem dL_sets_68 : decode cL_sets 68 = .ok (.iload 7, 2) := by decide +kernel
theorem dL_sets_70 : decode cL_sets 70 = .ok (.aload_n 0, 1) := by decide +kernel
theorem dL_sets_71 : decode cL_sets 71 = .ok (.iload 8, 2) := by decide +kernel
theorem dL_sets_73 : decode cL_sets 73 = .ok (.iload 6, 2) := by decide +kernel
theorem dL_sets_75 : decode cL_sets 75 = .ok (.invokevirtual 19, 3) := by decide +kernel
theorem dL_sets_78 : decode cL_sets 78 = .ok (.iadd, 1) := by decide +kernel
theorem dL_sets_79 : decode cL_sets 79 = .ok (.istore 7, 2) := by decide +kernel
theorem dL_sets_81 : decode cL_sets 81 = .ok (.iinc 8 1, 3) := by decide +kernel
theorem dL_sets_84 : decode cL_sets 84 = .ok (.goto (-26), 3) := by decide +kernel
theorem dL_sets_87 : decode cL_sets 87 = .ok (.iload_n 3, 1) := by decide +kernel
theorem dL_sets_88 : decode cL_sets 88 = .ok (.aload_n 0, 1) := by decide +kernel
theorem dL_sets_89 : decode cL_sets 89 = .ok (.iload_n 1, 1) := by decide +kernel
theorem dL_sets_90 : decode cL_sets 90 = .ok (.iload 6, 2) := by decide +kernel
theorem dL_sets_92 : decode cL_sets 92 = .ok (.invokevirtual 80, 3) := by decide +kernel
theorem dL_sets_95 : decode cL_sets 95 = .ok (.iadd, 1) := by decide +kernel
theorem dL_sets_96 : decode cL_sets 96 = .ok (.istore_n 3, 1) := by decide +kernel
theorem dL_sets_97 : decode cL_sets 97 = .ok (.iload 5, 2) := by decide +kernel
theorem dL_sets_99 : decode cL_sets 99 = .ok (.ifCond .eq 35, 3) := by decide +kernel
theorem dL_sets_102 : decode cL_sets 102 = .ok (.aload_n 0, 1) := by decide +kernel
theorem dL_sets_103 : decode cL_sets 103 = .ok (.iload_n 1, 1) := by decide +kernel
theorem dL_sets_104 : decode cL_sets 104 = .ok (.iload 6, 2) := by decide +kernel
theorem dL_sets_106 : decode cL_sets 106 = .ok (.invokevirtual 80, 3) := by decide +kernel
theorem dL_sets_109 : decode cL_sets 109 = .ok (.aload_n 2, 1) := by decide +kernel
theorem dL_sets_110 : decode cL_sets 110 = .ok (.iload 6, 2) := by decide +kernel
theorem dL_sets_112 : decode cL_sets 112 = .ok (.iaload, 1) := by decide +kernel
theorem dL_sets_113 : decode cL_sets 113 = .ok (.iload 7, 2) := by decide +kernel
theorem dL_sets_115 : decode cL_sets 115 = .ok (.if_icmp .le 13, 3) := by decide +kernel
theorem dL_sets_118 : decode cL_sets 118 = .ok (.aload_n 2, 1) := by decide +kernel
theorem dL_sets_119 : decode cL_sets 119 = .ok (.iload 6, 2) := by decide +kernel
theorem dL_sets_121 : decode cL_sets 121 = .ok (.iaload, 1) := by decide +kernel
theorem dL_sets_122 : decode cL_sets 122 = .ok (.iload 7, 2) := by decide +kernel
theorem dL_sets_124 : decode cL_sets 124 = .ok (.isub, 1) := by decide +kernel
theorem dL_sets_125 : decode cL_sets 125 = .ok (.goto 4, 3) := by decide +kernel
theorem dL_sets_128 : decode cL_sets 128 = .ok (.iconst 0, 1) := by decide +kernel
theorem dL_sets_129 : decode cL_sets 129 = .ok (.if_icmp .eq 5, 3) := by decide +kernel
theorem dL_sets_132 : decode cL_sets 132 = .ok (.iconst 0, 1) := by decide +kernel
theorem dL_sets_133 : decode cL_sets 133 = .ok (.ireturn, 1) := by decide +kernel
theorem dL_sets_134 : decode cL_sets 134 = .ok (.iinc 6 1, 3) := by decide +kernel
theorem dL_sets_137 : decode cL_sets 137 = .ok (.goto (-103), 3) := by decide +kernel
theorem dL_sets_140 : decode cL_sets 140 = .ok (.aload_n 0, 1) := by decide +kernel
theorem dL_sets_141 : decode cL_sets 141 = .ok (.iload_n 1, 1) := by decide +kernel
theorem dL_sets_142 : decode cL_sets 142 = .ok (.invokevirtual 83, 3) := by decide +kernel
theorem dL_sets_145 : decode cL_sets 145 = .ok (.istore 6, 2) := by decide +kernel
theorem dL_sets_147 : decode cL_sets 147 = .ok (.iload 5, 2) := by decide +kernel
theorem dL_sets_149 : decode cL_sets 149 = .ok (.ifCond .eq 7, 3) := by decide +kernel
theorem dL_sets_152 : decode cL_sets 152 = .ok (.iload_n 3, 1) := by decide +kernel
theorem dL_sets_153 : decode cL_sets 153 = .ok (.ifCond .le 16, 3) := by decide +kernel
theorem dL_sets_156 : decode cL_sets 156 = .ok (.iload 6, 2) := by decide +kernel
theorem dL_sets_158 : decode cL_sets 158 = .ok (.bipush (-4), 2) := by decide +kernel
theorem dL_sets_160 : decode cL_sets 160 = .ok (.if_icmp .ne 7, 3) := by decide +kernel
theorem dL_sets_163 : decode cL_sets 163 = .ok (.iconst 1, 1) := by decide +kernel
theorem dL_sets_164 : decode cL_sets 164 = .ok (.goto 4, 3) := by decide +kernel
theorem dL_sets_167 : decode cL_sets 167 = .ok (.iconst 0, 1) := by decide +kernel
theorem dL_sets_168 : decode cL_sets 168 = .ok (.ireturn, 1) := by decide +kernel
theorem dL_sets_169 : decode cL_sets 169 = .ok (.iconst 0, 1) := by decide +kernel
theorem dL_sets_170 : decode cL_sets 170 = .ok (.istore 7, 2) := by decide +kernel
theorem dL_sets_172 : decode cL_sets 172 = .ok (.iconst 0, 1) := by decide +kernel
theorem dL_sets_173 : decode cL_sets 173 = .ok (.istore 8, 2) := by decide +kernel
theorem dL_sets_175 : decode cL_sets 175 = .ok (.iload 8, 2) := by decide +kernel
theorem dL_sets_177 : decode cL_sets 177 = .ok (.bipush 29, 2) := by decide +kernel
theorem dL_sets_179 : decode cL_sets 179 = .ok (.if_icmp .ge 127, 3) := by decide +kernel
theorem dL_sets_182 : decode cL_sets 182 = .ok (.iconst 0, 1) := by decide +kernel
theorem dL_sets_183 : decode cL_sets 183 = .ok (.istore 9, 2) := by decide +kernel
theorem dL_sets_185 : decode cL_sets 185 = .ok (.iconst 0, 1) := by decide +kernel
theorem dL_sets_186 : decode cL_sets 186 = .ok (.istore 10, 2) := by decide +kernel
theorem dL_sets_188 : decode cL_sets 188 = .ok (.iload 10, 2) := by decide +kernel
theorem dL_sets_190 : decode cL_sets 190 = .ok (.aload_n 0, 1) := by decide +kernel
theorem dL_sets_191 : decode cL_sets 191 = .ok (.iconst 0, 1) := by decide +kernel
theorem dL_sets_192 : decode cL_sets 192 = .ok (.invokevirtual 13, 3) := by decide +kernel
theorem dL_sets_195 : decode cL_sets 195 = .ok (.if_icmp .ge 70, 3) := by decide +kernel
theorem dL_sets_198 : decode cL_sets 198 = .ok (.aload_n 0, 1) := by decide +kernel
theorem dL_sets_199 : decode cL_sets 199 = .ok (.iload_n 1, 1) := by decide +kernel
theorem dL_sets_200 : decode cL_sets 200 = .ok (.iload 10, 2) := by decide +kernel
theorem dL_sets_202 : decode cL_sets 202 = .ok (.iload 8, 2) := by decide +kernel
theorem dL_sets_204 : decode cL_sets 204 = .ok (.invokevirtual 31, 3) := by decide +kernel
theorem dL_sets_207 : decode cL_sets 207 = .ok (.istore 11, 2) := by decide +kernel
theorem dL_sets_209 : decode cL_sets 209 = .ok (.iload 9, 2) := by decide +kernel
theorem dL_sets_211 : decode cL_sets 211 = .ok (.iload 11, 2) := by decide +kernel
theorem dL_sets_213 : decode cL_sets 213 = .ok (.iadd, 1) := by decide +kernel
theorem dL_sets_214 : decode cL_sets 214 = .ok (.istore 9, 2) := by decide +kernel
theorem dL_sets_216 : decode cL_sets 216 = .ok (.iload 7, 2) := by decide +kernel
theorem dL_sets_218 : decode cL_sets 218 = .ok (.iload 10, 2) := by decide +kernel
theorem dL_sets_220 : decode cL_sets 220 = .ok (.iload 4, 2) := by decide +kernel
theorem dL_sets_222 : decode cL_sets 222 = .ok (.if_icmp .ne 7, 3) := by decide +kernel
theorem dL_sets_225 : decode cL_sets 225 = .ok (.iconst 0, 1) := by decide +kernel
theorem dL_sets_226 : decode cL_sets 226 = .ok (.goto 5, 3) := by decide +kernel
theorem dL_sets_229 : decode cL_sets 229 = .ok (.iload 11, 2) := by decide +kernel
theorem dL_sets_231 : decode cL_sets 231 = .ok (.iadd, 1) := by decide +kernel
theorem dL_sets_232 : decode cL_sets 232 = .ok (.istore 7, 2) := by decide +kernel
theorem dL_sets_234 : decode cL_sets 234 = .ok (.iload 10, 2) := by decide +kernel
theorem dL_sets_236 : decode cL_sets 236 = .ok (.iload 4, 2) := by decide +kernel
theorem dL_sets_238 : decode cL_sets 238 = .ok (.if_icmp .eq 21, 3) := by decide +kernel
theorem dL_sets_241 : decode cL_sets 241 = .ok (.iload 11, 2) := by decide +kernel
theorem dL_sets_243 : decode cL_sets 243 = .ok (.ifCond .le 16, 3) := by decide +kernel
theorem dL_sets_246 : decode cL_sets 246 = .ok (.aload_n 0, 1) := by decide +kernel
theorem dL_sets_247 : decode cL_sets 247 = .ok (.iload 4, 2) := by decide +kernel
theorem dL_sets_249 : decode cL_sets 249 = .ok (.iload 8, 2) := by decide +kernel
theorem dL_sets_251 : decode cL_sets 251 = .ok (.invokevirtual 19, 3) := by decide +kernel
theorem dL_sets_254 : decode cL_sets 254 = .ok (.ifCond .le 5, 3) := by decide +kernel
theorem dL_sets_257 : decode cL_sets 257 = .ok (.iconst 0, 1) := by decide +kernel
theorem dL_sets_258 : decode cL_sets 258 = .ok (.ireturn, 1) := by decide +kernel
theorem dL_sets_259 : decode cL_sets 259 = .ok (.iinc 10 1, 3) := by decide +kernel
theorem dL_sets_262 : decode cL_sets 262 = .ok (.goto (-74), 3) := by decide +kernel
theorem dL_sets_265 : decode cL_sets 265 = .ok (.iload 9, 2) := by decide +kernel
theorem dL_sets_267 : decode cL_sets 267 = .ok (.aload_n 2, 1) := by decide +kernel
theorem dL_sets_268 : decode cL_sets 268 = .ok (.iload 8, 2) := by decide +kernel
theorem dL_sets_270 : decode cL_sets 270 = .ok (.iaload, 1) := by decide +kernel
theorem dL_sets_271 : decode cL_sets 271 = .ok (.if_icmp .ne 27, 3) := by decide +kernel
theorem dL_sets_274 : decode cL_sets 274 = .ok (.aload_n 0, 1) := by decide +kernel
theorem dL_sets_275 : decode cL_sets 275 = .ok (.iload_n 1, 1) := by decide +kernel
theorem dL_sets_276 : decode cL_sets 276 = .ok (.iload 8, 2) := by decide +kernel
theorem dL_sets_278 : decode cL_sets 278 = .ok (.invokevirtual 77, 3) := by decide +kernel
theorem dL_sets_281 : decode cL_sets 281 = .ok (.aload_n 2, 1) := by decide +kernel
theorem dL_sets_282 : decode cL_sets 282 = .ok (.iload 8, 2) := by decide +kernel
theorem dL_sets_284 : decode cL_sets 284 = .ok (.iaload, 1) := by decide +kernel
theorem dL_sets_285 : decode cL_sets 285 = .ok (.if_icmp .ne 13, 3) := by decide +kernel
theorem dL_sets_288 : decode cL_sets 288 = .ok (.aload_n 0, 1) := by decide +kernel
theorem dL_sets_289 : decode cL_sets 289 = .ok (.iload_n 1, 1) := by decide +kernel
theorem dL_sets_290 : decode cL_sets 290 = .ok (.iload 8, 2) := by decide +kernel
theorem dL_sets_292 : decode cL_sets 292 = .ok (.invokevirtual 80, 3) := by decide +kernel
theorem dL_sets_295 : decode cL_sets 295 = .ok (.ifCond .eq 5, 3) := by decide +kernel
theorem dL_sets_298 : decode cL_sets 298 = .ok (.iconst 0, 1) := by decide +kernel
theorem dL_sets_299 : decode cL_sets 299 = .ok (.ireturn, 1) := by decide +kernel
theorem dL_sets_300 : decode cL_sets 300 = .ok (.iinc 8 1, 3) := by decide +kernel
theorem dL_sets_303 : decode cL_sets 303 = .ok (.goto (-128), 3) := by decide +kernel
theorem dL_sets_306 : decode cL_sets 306 = .ok (.iload 6, 2) := by decide +kernel
theorem dL_sets_308 : decode cL_sets 308 = .ok (.iload 7, 2) := by decide +kernel
theorem dL_sets_310 : decode cL_sets 310 = .ok (.if_icmp .ne 17, 3) := by decide +kernel
theorem dL_sets_313 : decode cL_sets 313 = .ok (.aload_n 0, 1) := by decide +kernel
theorem dL_sets_314 : decode cL_sets 314 = .ok (.iload_n 1, 1) := by decide +kernel
theorem dL_sets_315 : decode cL_sets 315 = .ok (.iconst 3, 1) := by decide +kernel
theorem dL_sets_316 : decode cL_sets 316 = .ok (.invokevirtual 23, 3) := by decide +kernel
theorem dL_sets_319 : decode cL_sets 319 = .ok (.iconst 1, 1) := by decide +kernel
theorem dL_sets_320 : decode cL_sets 320 = .ok (.if_icmp .ne 7, 3) := by decide +kernel
theorem dL_sets_323 : decode cL_sets 323 = .ok (.iconst 1, 1) := by decide +kernel
theorem dL_sets_324 : decode cL_sets 324 = .ok (.goto 4, 3) := by decide +kernel
theorem dL_sets_327 : decode cL_sets 327 = .ok (.iconst 0, 1) := by decide +kernel
theorem dL_sets_328 : decode cL_sets 328 = .ok (.ireturn, 1) := by decide +kernel
def rm_L_sets : Room := { frames := 6, cells := 7, slots := 433, locals := 133 }
set_option maxRecDepth 100000 in
set_option maxHeartbeats 4000000 in
theorem ok_L_sets_134 {E : Ev} {X : Xt} {l0 : Launch} {K : Int32 → Hp → Prop} {C34 : Nat → Int32 → Nat → Int32 → Int32 → Int32 → Int32 → Hp → Prop} (hC : Cx E X l0 RL cL_sets 12 rm_L_sets) (hQ : CQ E X "sets" (some .boolean) rm_L_sets (KI K)) (hC34 : ∀ (a0 : Nat) (a1 : Int32) (a2 : Nat) (a3 : Int32) (a4 : Int32) (a5 : Int32) (a6 : Int32) (h : Hp), C34 a0 a1 a2 a3 a4 a5 a6 h → WW E X h 1 29 34 [some (rv a0), some (.int a1), some (rv a2), some (.int a3), some (.int a4), some (.int a5), some (.int a6), none, none, none, none, none] []) (a0 : Nat) (a1 : Int32) (a2 : Nat) (a3 : Int32) (a4 : Int32) (a5 : Int32) (a6 : Int32) (h : Hp) (hV : V_L_sets_134 K C34 a0 a1 a2 a3 a4 a5 a6 h) : WW E X h 1 29 134 [some (rv a0), some (.int a1), some (rv a2), some (.int a3), some (.int a4), some (.int a5), some (.int a6), none, none, none, none, none] [] := by
  unfold V_L_sets_134 at hV
  refine r_iinc (v := 1) (lo1 := [some (rv a0), some (.int a1), some (rv a2), some (.int a3), some (.int a4), some (.int a5), some (.int (a6 + 1)), none, none, none, none, none]) hC dL_sets_134 rfl (by decide) (pvI rfl) rfl ?_
  refine r_goto (tgt := 34) hC dL_sets_137 (by decide) ?_
  exact hC34 a0 a1 a2 a3 a4 a5 (a6 + 1) h hV
set_option maxRecDepth 100000 in
set_option maxHeartbeats 4000000 in
theorem ok_L_sets_129 {E : Ev} {X : Xt} {l0 : Launch} {K : Int32 → Hp → Prop} {C34 : Nat → Int32 → Nat → Int32 → Int32 → Int32 → Int32 → Hp → Prop} (hC : Cx E X l0 RL cL_sets 12 rm_L_sets) (hQ : CQ E X "sets" (some .boolean) rm_L_sets (KI K)) (hC34 : ∀ (a0 : Nat) (a1 : Int32) (a2 : Nat) (a3 : Int32) (a4 : Int32) (a5 : Int32) (a6 : Int32) (h : Hp), C34 a0 a1 a2 a3 a4 a5 a6 h → WW E X h 1 29 34 [some (rv a0), some (.int a1), some (rv a2), some (.int a3), some (.int a4), some (.int a5), some (.int a6), none, none, none, none, none] []) (a0 : Nat) (a1 : Int32) (a2 : Nat) (a3 : Int32) (a4 : Int32) (a5 : Int32) (a6 : Int32) (s0 : Int32) (s1 : Int32) (h : Hp) (hV : V_L_sets_129 K C34 a0 a1 a2 a3 a4 a5 a6 s0 s1 h) : WW E X h 1 29 129 [some (rv a0), some (.int a1), some (rv a2), some (.int a3), some (.int a4), some (.int a5), some (.int a6), none, none, none, none, none] [.int s1, .int s0] := by
  unfold V_L_sets_129 at hV
  refine r_icmp_eq (tgt := 134) hC dL_sets_129 (by decide) (fun k9 => ?_) (fun k9 => ?_)
  · replace hV := hV.1 k9
    exact ok_L_sets_134 hC hQ hC34 a0 a1 a2 a3 a4 a5 a6 h hV
  · replace hV := hV.2 k9
    refine r_iconst (v := 0) hC dL_sets_132 (by decide) ?_
    exact r_zret hC hQ dL_sets_133 (Nat.le_of_ble_eq_true rfl) (Nat.le_of_ble_eq_true rfl) hV.1 ⟨_, rfl, hV.2⟩
set_option maxRecDepth 100000 in
set_option maxHeartbeats 4000000 in
theorem ok_L_sets_58 {E : Ev} {X : Xt} {l0 : Launch} {K : Int32 → Hp → Prop} {C34 : Nat → Int32 → Nat → Int32 → Int32 → Int32 → Int32 → Hp → Prop} (hC : Cx E X l0 RL cL_sets 12 rm_L_sets) (hQ : CQ E X "sets" (some .boolean) rm_L_sets (KI K)) (hC34 : ∀ (a0 : Nat) (a1 : Int32) (a2 : Nat) (a3 : Int32) (a4 : Int32) (a5 : Int32) (a6 : Int32) (h : Hp), C34 a0 a1 a2 a3 a4 a5 a6 h → WW E X h 1 29 34 [some (rv a0), some (.int a1), some (rv a2), some (.int a3), some (.int a4), some (.int a5), some (.int a6), none, none, none, none, none] []) : ∀ (n : Nat) (a0 : Nat) (a1 : Int32) (a2 : Nat) (a3 : Int32) (a4 : Int32) (a5 : Int32) (a6 : Int32) (a7 : Int32) (a8 : Int32) (h : Hp), V_L_sets_58 K C34 n a0 a1 a2 a3 a4 a5 a6 a7 a8 h → WW E X h 1 29 58 [some (rv a0), some (.int a1), some (rv a2), some (.int a3), some (.int a4), some (.int a5), some (.int a6), some (.int a7), some (.int a8), none, none, none] [] := by
  intro n
  induction n with
  | zero => intro a0 a1 a2 a3 a4 a5 a6 a7 a8 h hV; exact hV.elim
  | succ n ih =>
    intro a0 a1 a2 a3 a4 a5 a6 a7 a8 h hV
    unfold V_L_sets_58 at hV
    refine r_iload hC dL_sets_58 rfl ?_
    refine r_aload_n hC dL_sets_60 rfl ?_
    refine r_iconst (v := 0) hC dL_sets_61 (by decide) ?_
    obtain ⟨k9, hV⟩ := hV
    refine r_callV (ci := 6) (As := [.int 0]) hC dL_sets_62 rfl cf_X6_count ml_7_13 im_X6_count sl_X6_count lq_6 rfl rfl k9 rfl ⟨(Nat.le_of_ble_eq_true rfl), (Nat.le_of_ble_eq_true rfl), (Nat.le_of_ble_eq_true rfl), (Nat.le_of_ble_eq_true rfl)⟩ (csI cs0) (Nat.le_of_ble_eq_true rfl) (con_X6_count a0 0 h _ hV) rfl (kI (k := 1) (n := 29) (fun r1 h1 hV => ?_))
    refine r_icmp_ge (tgt := 87) hC dL_sets_65 (by decide) (fun k9 => ?_) (fun k9 => ?_)
    · replace hV := hV.1 k9
      refine r_iload_n hC dL_sets_87 rfl ?_
      refine r_aload_n hC dL_sets_88 rfl ?_
      refine r_iload_n hC dL_sets_89 rfl ?_
      refine r_iload hC dL_sets_90 rfl ?_
      obtain ⟨k9, hV⟩ := hV
      refine r_callV (ci := 6) (As := [.int a1, .int a6]) hC dL_sets_92 rfl cf_X6_missing ml_7_80 im_X6_missing sl_X6_missing lq_6 rfl rfl k9 rfl ⟨(Nat.le_of_ble_eq_true rfl), (Nat.le_of_ble_eq_true rfl), (Nat.le_of_ble_eq_true rfl), (Nat.le_of_ble_eq_true rfl)⟩ (csI cs0) (Nat.le_of_ble_eq_true rfl) (con_X6_missing a0 a1 a6 h1 _ hV) rfl (kI (k := 1) (n := 29) (fun r2 h2 hV => ?_))
      refine r_iadd hC dL_sets_95 ?_
      refine r_istore_n (ii := 3) (lo1 := [some (rv a0), some (.int a1), some (rv a2), some (.int (a3 + r2)), some (.int a4), some (.int a5), some (.int a6), some (.int a7), some (.int a8), none, none, none]) hC dL_sets_96 rfl (Nat.le_of_ble_eq_true rfl) (pvR rfl) rfl ?_
      refine r_iload hC dL_sets_97 rfl ?_
      refine r_if_eq (tgt := 134) hC dL_sets_99 (by decide) (fun k9 => ?_) (fun k9 => ?_)
      · replace hV := hV.1 k9
        refine r_sub (lo1 := [some (rv a0), some (.int a1), some (rv a2), some (.int (a3 + r2)), some (.int a4), some (.int a5), some (.int a6), none, none, none, none, none]) ⟨Or.inr rfl, ⟨Or.inr rfl, ⟨Or.inr rfl, ⟨Or.inr rfl, ⟨Or.inr rfl, ⟨Or.inr rfl, ⟨Or.inr rfl, ⟨Or.inl rfl, ⟨Or.inl rfl, ⟨Or.inl rfl, ⟨Or.inl rfl, ⟨Or.inl rfl, trivial⟩⟩⟩⟩⟩⟩⟩⟩⟩⟩⟩⟩ ?_
        exact ok_L_sets_134 hC hQ hC34 a0 a1 a2 (a3 + r2) a4 a5 a6 h2 hV
      · replace hV := hV.2 k9
        refine r_aload_n hC dL_sets_102 rfl ?_
        refine r_iload_n hC dL_sets_103 rfl ?_
        refine r_iload hC dL_sets_104 rfl ?_
        obtain ⟨k9, hV⟩ := hV
        refine r_callV (ci := 6) (As := [.int a1, .int a6]) hC dL_sets_106 rfl cf_X6_missing ml_7_80 im_X6_missing sl_X6_missing lq_6 rfl rfl k9 rfl ⟨(Nat.le_of_ble_eq_true rfl), (Nat.le_of_ble_eq_true rfl), (Nat.le_of_ble_eq_true rfl), (Nat.le_of_ble_eq_true rfl)⟩ cs0 (Nat.le_of_ble_eq_true rfl) (con_X6_missing a0 a1 a6 h2 _ hV) rfl (kI (k := 1) (n := 29) (fun r3 h3 hV => ?_))
        refine r_aload_n hC dL_sets_109 rfl ?_
        refine r_iload hC dL_sets_110 rfl ?_
        obtain ⟨k9, k8, hV⟩ := hV
        refine r_iald (kd := 60) hC dL_sets_112 (by decide) rfl k9 k8 ?_
        refine r_iload hC dL_sets_113 rfl ?_
        refine r_icmp_le (tgt := 128) hC dL_sets_115 (by decide) (fun k9 => ?_) (fun k9 => ?_)
        · replace hV := hV.1 k9
          refine r_iconst (v := 0) hC dL_sets_128 (by decide) ?_
          refine r_sub (lo1 := [some (rv a0), some (.int a1), some (rv a2), some (.int (a3 + r2)), some (.int a4), some (.int a5), some (.int a6), none, none, none, none, none]) ⟨Or.inr rfl, ⟨Or.inr rfl, ⟨Or.inr rfl, ⟨Or.inr rfl, ⟨Or.inr rfl, ⟨Or.inr rfl, ⟨Or.inr rfl, ⟨Or.inl rfl, ⟨Or.inl rfl, ⟨Or.inl rfl, ⟨Or.inl rfl, ⟨Or.inl rfl, trivial⟩⟩⟩⟩⟩⟩⟩⟩⟩⟩⟩⟩ ?_
          exact ok_L_sets_129 hC hQ hC34 a0 a1 a2 (a3 + r2) a4 a5 a6 r3 0 h3 hV
        · replace hV := hV.2 k9
          refine r_aload_n hC dL_sets_118 rfl ?_
          refine r_iload hC dL_sets_119 rfl ?_
          obtain ⟨k9, k8, hV⟩ := hV
          refine r_iald (kd := 60) hC dL_sets_121 (by decide) rfl k9 k8 ?_
          refine r_iload hC dL_sets_122 rfl ?_
          refine r_isub hC dL_sets_124 ?_
          refine r_goto (tgt := 129) hC dL_sets_125 (by decide) ?_
          refine r_sub (lo1 := [some (rv a0), some (.int a1), some (rv a2), some (.int (a3 + r2)), some (.int a4), some (.int a5), some (.int a6), none, none, none, none, none]) ⟨Or.inr rfl, ⟨Or.inr rfl, ⟨Or.inr rfl, ⟨Or.inr rfl, ⟨Or.inr rfl, ⟨Or.inr rfl, ⟨Or.inr rfl, ⟨Or.inl rfl, ⟨Or.inl rfl, ⟨Or.inl rfl, ⟨Or.inl rfl, ⟨Or.inl rfl, trivial⟩⟩⟩⟩⟩⟩⟩⟩⟩⟩⟩⟩ ?_
          exact ok_L_sets_129 hC hQ hC34 a0 a1 a2 (a3 + r2) a4 a5 a6 r3 ((hI h3 a2 (ix a6)) - a7) h3 hV
    · replace hV := hV.2 k9
      refine r_iload hC dL_sets_68 rfl ?_
      refine r_aload_n hC dL_sets_70 rfl ?_
      refine r_iload hC dL_sets_71 rfl ?_
      refine r_iload hC dL_sets_73 rfl ?_
      obtain ⟨k9, hV⟩ := hV
      refine r_callV (ci := 6) (As := [.int a8, .int a6]) hC dL_sets_75 rfl cf_X6_pieces ml_7_19 im_X6_pieces sl_X6_pieces lq_6 rfl rfl k9 rfl ⟨(Nat.le_of_ble_eq_true rfl), (Nat.le_of_ble_eq_true rfl), (Nat.le_of_ble_eq_true rfl), (Nat.le_of_ble_eq_true rfl)⟩ (csI cs0) (Nat.le_of_ble_eq_true rfl) (con_X6_pieces a0 a8 a6 h1 _ hV) rfl (kI (k := 1) (n := 29) (fun r2 h2 hV => ?_))
      refine r_iadd hC dL_sets_78 ?_
      refine r_istore (lo1 := [some (rv a0), some (.int a1), some (rv a2), some (.int a3), some (.int a4), some (.int a5), some (.int a6), some (.int (a7 + r2)), some (.int a8), none, none, none]) hC dL_sets_79 (Nat.le_of_ble_eq_true rfl) (pvI rfl) rfl ?_
      refine r_iinc (v := 1) (lo1 := [some (rv a0), some (.int a1), some (rv a2), some (.int a3), some (.int a4), some (.int a5), some (.int a6), some (.int (a7 + r2)), some (.int (a8 + 1)), none, none, none]) hC dL_sets_81 rfl (by decide) (pvI rfl) rfl ?_
      refine r_goto (tgt := 58) hC dL_sets_84 (by decide) ?_
      exact ih a0 a1 a2 a3 a4 a5 a6 (a7 + r2) (a8 + 1) h2 hV
set_option maxRecDepth 100000 in
set_option maxHeartbeats 4000000 in
theorem ok_L_sets_168 {E : Ev} {X : Xt} {l0 : Launch} {K : Int32 → Hp → Prop} (hC : Cx E X l0 RL cL_sets 12 rm_L_sets) (hQ : CQ E X "sets" (some .boolean) rm_L_sets (KI K)) (s0 : Int32) (h : Hp) (hV : V_L_sets_168 K s0 h) : WW E X h 7 433 168 [none, none, none, none, none, none, none, none, none, none, none, none] [.int s0] := by
  unfold V_L_sets_168 at hV
  exact r_zret hC hQ dL_sets_168 (Nat.le_of_ble_eq_true rfl) (Nat.le_of_ble_eq_true rfl) hV.1 ⟨_, rfl, hV.2⟩
set_option maxRecDepth 100000 in
set_option maxHeartbeats 4000000 in
theorem ok_L_sets_156 {E : Ev} {X : Xt} {l0 : Launch} {K : Int32 → Hp → Prop} (hC : Cx E X l0 RL cL_sets 12 rm_L_sets) (hQ : CQ E X "sets" (some .boolean) rm_L_sets (KI K)) (a6 : Int32) (h : Hp) (hV : V_L_sets_156 K a6 h) : WW E X h 7 433 156 [none, none, none, none, none, none, some (.int a6), none, none, none, none, none] [] := by
  unfold V_L_sets_156 at hV
  refine r_iload hC dL_sets_156 rfl ?_
  refine r_bipush (v := (-4)) hC dL_sets_158 (by decide) ?_
  refine r_icmp_ne (tgt := 167) hC dL_sets_160 (by decide) (fun k9 => ?_) (fun k9 => ?_)
  · replace hV := hV.1 k9
    refine r_iconst (v := 0) hC dL_sets_167 (by decide) ?_
    refine r_sub (lo1 := [none, none, none, none, none, none, none, none, none, none, none, none]) ⟨Or.inl rfl, ⟨Or.inl rfl, ⟨Or.inl rfl, ⟨Or.inl rfl, ⟨Or.inl rfl, ⟨Or.inl rfl, ⟨Or.inl rfl, ⟨Or.inl rfl, ⟨Or.inl rfl, ⟨Or.inl rfl, ⟨Or.inl rfl, ⟨Or.inl rfl, trivial⟩⟩⟩⟩⟩⟩⟩⟩⟩⟩⟩⟩ ?_
    exact ok_L_sets_168 hC hQ 0 h hV
  · replace hV := hV.2 k9
    refine r_iconst (v := 1) hC dL_sets_163 (by decide) ?_
    refine r_goto (tgt := 168) hC dL_sets_164 (by decide) ?_
    refine r_sub (lo1 := [none, none, none, none, none, none, none, none, none, none, none, none]) ⟨Or.inl rfl, ⟨Or.inl rfl, ⟨Or.inl rfl, ⟨Or.inl rfl, ⟨Or.inl rfl, ⟨Or.inl rfl, ⟨Or.inl rfl, ⟨Or.inl rfl, ⟨Or.inl rfl, ⟨Or.inl rfl, ⟨Or.inl rfl, ⟨Or.inl rfl, trivial⟩⟩⟩⟩⟩⟩⟩⟩⟩⟩⟩⟩ ?_
    exact ok_L_sets_168 hC hQ 1 h hV
set_option maxRecDepth 100000 in
set_option maxHeartbeats 4000000 in
theorem ok_L_sets_259 {E : Ev} {X : Xt} {l0 : Launch} {K : Int32 → Hp → Prop} {C175 : Nat → Int32 → Nat → Int32 → Int32 → Int32 → Int32 → Hp → Prop} {C188 : Nat → Int32 → Nat → Int32 → Int32 → Int32 → Int32 → Int32 → Int32 → Hp → Prop} (hC : Cx E X l0 RL cL_sets 12 rm_L_sets) (hQ : CQ E X "sets" (some .boolean) rm_L_sets (KI K)) (hC175 : ∀ (a0 : Nat) (a1 : Int32) (a2 : Nat) (a4 : Int32) (a6 : Int32) (a7 : Int32) (a8 : Int32) (h : Hp), C175 a0 a1 a2 a4 a6 a7 a8 h → WW E X h 7 433 175 [some (rv a0), some (.int a1), some (rv a2), none, some (.int a4), none, some (.int a6), some (.int a7), some (.int a8), none, none, none] []) (hC188 : ∀ (a0 : Nat) (a1 : Int32) (a2 : Nat) (a4 : Int32) (a6 : Int32) (a7 : Int32) (a8 : Int32) (a9 : Int32) (a10 : Int32) (h : Hp), C188 a0 a1 a2 a4 a6 a7 a8 a9 a10 h → WW E X h 7 433 188 [some (rv a0), some (.int a1), some (rv a2), none, some (.int a4), none, some (.int a6), some (.int a7), some (.int a8), some (.int a9), some (.int a10), none] []) (a0 : Nat) (a1 : Int32) (a2 : Nat) (a4 : Int32) (a6 : Int32) (a7 : Int32) (a8 : Int32) (a9 : Int32) (a10 : Int32) (h : Hp) (hV : V_L_sets_259 K C175 C188 a0 a1 a2 a4 a6 a7 a8 a9 a10 h) : WW E X h 7 433 259 [some (rv a0), some (.int a1), some (rv a2), none, some (.int a4), none, some (.int a6), some (.int a7), some (.int a8), some (.int a9), some (.int a10), none] [] := by
  unfold V_L_sets_259 at hV
  refine r_iinc (v := 1) (lo1 := [some (rv a0), some (.int a1), some (rv a2), none, some (.int a4), none, some (.int a6), some (.int a7), some (.int a8), some (.int a9), some (.int (a10 + 1)), none]) hC dL_sets_259 rfl (by decide) (pvI rfl) rfl ?_
  refine r_goto (tgt := 188) hC dL_sets_262 (by decide) ?_
  exact hC188 a0 a1 a2 a4 a6 a7 a8 a9 (a10 + 1) h hV
set_option maxRecDepth 100000 in
set_option maxHeartbeats 4000000 in
theorem ok_L_sets_231 {E : Ev} {X : Xt} {l0 : Launch} {K : Int32 → Hp → Prop} {C175 : Nat → Int32 → Nat → Int32 → Int32 → Int32 → Int32 → Hp → Prop} {C188 : Nat → Int32 → Nat → Int32 → Int32 → Int32 → Int32 → Int32 → Int32 → Hp → Prop} (hC : Cx E X l0 RL cL_sets 12 rm_L_sets) (hQ : CQ E X "sets" (some .boolean) rm_L_sets (KI K)) (hC175 : ∀ (a0 : Nat) (a1 : Int32) (a2 : Nat) (a4 : Int32) (a6 : Int32) (a7 : Int32) (a8 : Int32) (h : Hp), C175 a0 a1 a2 a4 a6 a7 a8 h → WW E X h 7 433 175 [some (rv a0), some (.int a1), some (rv a2), none, some (.int a4), none, some (.int a6), some (.int a7), some (.int a8), none, none, none] []) (hC188 : ∀ (a0 : Nat) (a1 : Int32) (a2 : Nat) (a4 : Int32) (a6 : Int32) (a7 : Int32) (a8 : Int32) (a9 : Int32) (a10 : Int32) (h : Hp), C188 a0 a1 a2 a4 a6 a7 a8 a9 a10 h → WW E X h 7 433 188 [some (rv a0), some (.int a1), some (rv a2), none, some (.int a4), none, some (.int a6), some (.int a7), some (.int a8), some (.int a9), some (.int a10), none] []) (a0 : Nat) (a1 : Int32) (a2 : Nat) (a4 : Int32) (a6 : Int32) (a8 : Int32) (a9 : Int32) (a10 : Int32) (a11 : Int32) (s0 : Int32) (s1 : Int32) (h : Hp) (hV : V_L_sets_231 K C175 C188 a0 a1 a2 a4 a6 a8 a9 a10 a11 s0 s1 h) : WW E X h 7 433 231 [some (rv a0), some (.int a1), some (rv a2), none, some (.int a4), none, some (.int a6), none, some (.int a8), some (.int a9), some (.int a10), some (.int a11)] [.int s1, .int s0] := by
  unfold V_L_sets_231 at hV
  refine r_iadd hC dL_sets_231 ?_
  refine r_istore (lo1 := [some (rv a0), some (.int a1), some (rv a2), none, some (.int a4), none, some (.int a6), some (.int (s0 + s1)), some (.int a8), some (.int a9), some (.int a10), some (.int a11)]) hC dL_sets_232 (Nat.le_of_ble_eq_true rfl) (pvI rfl) rfl ?_
  refine r_iload hC dL_sets_234 rfl ?_
  refine r_iload hC dL_sets_236 rfl ?_
  refine r_icmp_eq (tgt := 259) hC dL_sets_238 (by decide) (fun k9 => ?_) (fun k9 => ?_)
  · replace hV := hV.1 k9
    refine r_sub (lo1 := [some (rv a0), some (.int a1), some (rv a2), none, some (.int a4), none, some (.int a6), some (.int (s0 + s1)), some (.int a8), some (.int a9), some (.int a10), none]) ⟨Or.inr rfl, ⟨Or.inr rfl, ⟨Or.inr rfl, ⟨Or.inl rfl, ⟨Or.inr rfl, ⟨Or.inl rfl, ⟨Or.inr rfl, ⟨Or.inr rfl, ⟨Or.inr rfl, ⟨Or.inr rfl, ⟨Or.inr rfl, ⟨Or.inl rfl, trivial⟩⟩⟩⟩⟩⟩⟩⟩⟩⟩⟩⟩ ?_
    exact ok_L_sets_259 hC hQ hC175 hC188 a0 a1 a2 a4 a6 (s0 + s1) a8 a9 a10 h hV
  · replace hV := hV.2 k9
    refine r_iload hC dL_sets_241 rfl ?_
    refine r_if_le (tgt := 259) hC dL_sets_243 (by decide) (fun k9 => ?_) (fun k9 => ?_)
    · replace hV := hV.1 k9
      refine r_sub (lo1 := [some (rv a0), some (.int a1), some (rv a2), none, some (.int a4), none, some (.int a6), some (.int (s0 + s1)), some (.int a8), some (.int a9), some (.int a10), none]) ⟨Or.inr rfl, ⟨Or.inr rfl, ⟨Or.inr rfl, ⟨Or.inl rfl, ⟨Or.inr rfl, ⟨Or.inl rfl, ⟨Or.inr rfl, ⟨Or.inr rfl, ⟨Or.inr rfl, ⟨Or.inr rfl, ⟨Or.inr rfl, ⟨Or.inl rfl, trivial⟩⟩⟩⟩⟩⟩⟩⟩⟩⟩⟩⟩ ?_
      exact ok_L_sets_259 hC hQ hC175 hC188 a0 a1 a2 a4 a6 (s0 + s1) a8 a9 a10 h hV
    · replace hV := hV.2 k9
      refine r_aload_n hC dL_sets_246 rfl ?_
      refine r_iload hC dL_sets_247 rfl ?_
      refine r_iload hC dL_sets_249 rfl ?_
      obtain ⟨k9, hV⟩ := hV
      refine r_callV (ci := 6) (As := [.int a4, .int a8]) hC dL_sets_251 rfl cf_X6_pieces ml_7_19 im_X6_pieces sl_X6_pieces lq_6 rfl rfl k9 rfl ⟨(Nat.le_of_ble_eq_true rfl), (Nat.le_of_ble_eq_true rfl), (Nat.le_of_ble_eq_true rfl), (Nat.le_of_ble_eq_true rfl)⟩ cs0 (Nat.le_of_ble_eq_true rfl) (con_X6_pieces a0 a4 a8 h _ hV) rfl (kI (k := 7) (n := 433) (fun r1 h1 hV => ?_))
      refine r_if_le (tgt := 259) hC dL_sets_254 (by decide) (fun k9 => ?_) (fun k9 => ?_)
      · replace hV := hV.1 k9
        refine r_sub (lo1 := [some (rv a0), some (.int a1), some (rv a2), none, some (.int a4), none, some (.int a6), some (.int (s0 + s1)), some (.int a8), some (.int a9), some (.int a10), none]) ⟨Or.inr rfl, ⟨Or.inr rfl, ⟨Or.inr rfl, ⟨Or.inl rfl, ⟨Or.inr rfl, ⟨Or.inl rfl, ⟨Or.inr rfl, ⟨Or.inr rfl, ⟨Or.inr rfl, ⟨Or.inr rfl, ⟨Or.inr rfl, ⟨Or.inl rfl, trivial⟩⟩⟩⟩⟩⟩⟩⟩⟩⟩⟩⟩ ?_
        exact ok_L_sets_259 hC hQ hC175 hC188 a0 a1 a2 a4 a6 (s0 + s1) a8 a9 a10 h1 hV
      · replace hV := hV.2 k9
        refine r_iconst (v := 0) hC dL_sets_257 (by decide) ?_
        exact r_zret hC hQ dL_sets_258 (Nat.le_of_ble_eq_true rfl) (Nat.le_of_ble_eq_true rfl) hV.1 ⟨_, rfl, hV.2⟩
set_option maxRecDepth 100000 in
set_option maxHeartbeats 4000000 in
theorem ok_L_sets_298 {E : Ev} {X : Xt} {l0 : Launch} {K : Int32 → Hp → Prop} (hC : Cx E X l0 RL cL_sets 12 rm_L_sets) (hQ : CQ E X "sets" (some .boolean) rm_L_sets (KI K)) (h : Hp) (hV : V_L_sets_298 K  h) : WW E X h 7 433 298 [none, none, none, none, none, none, none, none, none, none, none, none] [] := by
  unfold V_L_sets_298 at hV
  refine r_iconst (v := 0) hC dL_sets_298 (by decide) ?_
  exact r_zret hC hQ dL_sets_299 (Nat.le_of_ble_eq_true rfl) (Nat.le_of_ble_eq_true rfl) hV.1 ⟨_, rfl, hV.2⟩
set_option maxRecDepth 100000 in
set_option maxHeartbeats 4000000 in
theorem ok_L_sets_188 {E : Ev} {X : Xt} {l0 : Launch} {K : Int32 → Hp → Prop} {C175 : Nat → Int32 → Nat → Int32 → Int32 → Int32 → Int32 → Hp → Prop} (hC : Cx E X l0 RL cL_sets 12 rm_L_sets) (hQ : CQ E X "sets" (some .boolean) rm_L_sets (KI K)) (hC175 : ∀ (a0 : Nat) (a1 : Int32) (a2 : Nat) (a4 : Int32) (a6 : Int32) (a7 : Int32) (a8 : Int32) (h : Hp), C175 a0 a1 a2 a4 a6 a7 a8 h → WW E X h 7 433 175 [some (rv a0), some (.int a1), some (rv a2), none, some (.int a4), none, some (.int a6), some (.int a7), some (.int a8), none, none, none] []) : ∀ (n : Nat) (a0 : Nat) (a1 : Int32) (a2 : Nat) (a4 : Int32) (a6 : Int32) (a7 : Int32) (a8 : Int32) (a9 : Int32) (a10 : Int32) (h : Hp), V_L_sets_188 K C175 n a0 a1 a2 a4 a6 a7 a8 a9 a10 h → WW E X h 7 433 188 [some (rv a0), some (.int a1), some (rv a2), none, some (.int a4), none, some (.int a6), some (.int a7), some (.int a8), some (.int a9), some (.int a10), none] [] := by
  intro n
  induction n with
  | zero => intro a0 a1 a2 a4 a6 a7 a8 a9 a10 h hV; exact hV.elim
  | succ n ih =>
    intro a0 a1 a2 a4 a6 a7 a8 a9 a10 h hV
    unfold V_L_sets_188 at hV
    refine r_iload hC dL_sets_188 rfl ?_
    refine r_aload_n hC dL_sets_190 rfl ?_
    refine r_iconst (v := 0) hC dL_sets_191 (by decide) ?_
    obtain ⟨k9, hV⟩ := hV
    refine r_callV (ci := 6) (As := [.int 0]) hC dL_sets_192 rfl cf_X6_count ml_7_13 im_X6_count sl_X6_count lq_6 rfl rfl k9 rfl ⟨(Nat.le_of_ble_eq_true rfl), (Nat.le_of_ble_eq_true rfl), (Nat.le_of_ble_eq_true rfl), (Nat.le_of_ble_eq_true rfl)⟩ (csI cs0) (Nat.le_of_ble_eq_true rfl) (con_X6_count a0 0 h _ hV) rfl (kI (k := 7) (n := 433) (fun r1 h1 hV => ?_))
    refine r_icmp_ge (tgt := 265) hC dL_sets_195 (by decide) (fun k9 => ?_) (fun k9 => ?_)
    · replace hV := hV.1 k9
      refine r_iload hC dL_sets_265 rfl ?_
      refine r_aload_n hC dL_sets_267 rfl ?_
      refine r_iload hC dL_sets_268 rfl ?_
      obtain ⟨k9, k8, hV⟩ := hV
      refine r_iald (kd := 60) hC dL_sets_270 (by decide) rfl k9 k8 ?_
      refine r_icmp_ne (tgt := 298) hC dL_sets_271 (by decide) (fun k9 => ?_) (fun k9 => ?_)
      · replace hV := hV.1 k9
        refine r_sub (lo1 := [none, none, none, none, none, none, none, none, none, none, none, none]) ⟨Or.inl rfl, ⟨Or.inl rfl, ⟨Or.inl rfl, ⟨Or.inl rfl, ⟨Or.inl rfl, ⟨Or.inl rfl, ⟨Or.inl rfl, ⟨Or.inl rfl, ⟨Or.inl rfl, ⟨Or.inl rfl, ⟨Or.inl rfl, ⟨Or.inl rfl, trivial⟩⟩⟩⟩⟩⟩⟩⟩⟩⟩⟩⟩ ?_
        exact ok_L_sets_298 hC hQ  h1 hV
      · replace hV := hV.2 k9
        refine r_aload_n hC dL_sets_274 rfl ?_
        refine r_iload_n hC dL_sets_275 rfl ?_
        refine r_iload hC dL_sets_276 rfl ?_
        obtain ⟨k9, hV⟩ := hV
        refine r_callV (ci := 6) (As := [.int a1, .int a8]) hC dL_sets_278 rfl cf_X6_need ml_7_77 im_X6_need sl_X6_need lq_6 rfl rfl k9 rfl ⟨(Nat.le_of_ble_eq_true rfl), (Nat.le_of_ble_eq_true rfl), (Nat.le_of_ble_eq_true rfl), (Nat.le_of_ble_eq_true rfl)⟩ cs0 (Nat.le_of_ble_eq_true rfl) (con_X6_need a0 a1 a8 h1 _ hV) rfl (kI (k := 7) (n := 433) (fun r2 h2 hV => ?_))
        refine r_aload_n hC dL_sets_281 rfl ?_
        refine r_iload hC dL_sets_282 rfl ?_
        obtain ⟨k9, k8, hV⟩ := hV
        refine r_iald (kd := 60) hC dL_sets_284 (by decide) rfl k9 k8 ?_
        refine r_icmp_ne (tgt := 298) hC dL_sets_285 (by decide) (fun k9 => ?_) (fun k9 => ?_)
        · replace hV := hV.1 k9
          refine r_sub (lo1 := [none, none, none, none, none, none, none, none, none, none, none, none]) ⟨Or.inl rfl, ⟨Or.inl rfl, ⟨Or.inl rfl, ⟨Or.inl rfl, ⟨Or.inl rfl, ⟨Or.inl rfl, ⟨Or.inl rfl, ⟨Or.inl rfl, ⟨Or.inl rfl, ⟨Or.inl rfl, ⟨Or.inl rfl, ⟨Or.inl rfl, trivial⟩⟩⟩⟩⟩⟩⟩⟩⟩⟩⟩⟩ ?_
          exact ok_L_sets_298 hC hQ  h2 hV
        · replace hV := hV.2 k9
          refine r_aload_n hC dL_sets_288 rfl ?_
          refine r_iload_n hC dL_sets_289 rfl ?_
          refine r_iload hC dL_sets_290 rfl ?_
          obtain ⟨k9, hV⟩ := hV
          refine r_callV (ci := 6) (As := [.int a1, .int a8]) hC dL_sets_292 rfl cf_X6_missing ml_7_80 im_X6_missing sl_X6_missing lq_6 rfl rfl k9 rfl ⟨(Nat.le_of_ble_eq_true rfl), (Nat.le_of_ble_eq_true rfl), (Nat.le_of_ble_eq_true rfl), (Nat.le_of_ble_eq_true rfl)⟩ cs0 (Nat.le_of_ble_eq_true rfl) (con_X6_missing a0 a1 a8 h2 _ hV) rfl (kI (k := 7) (n := 433) (fun r3 h3 hV => ?_))
          refine r_if_eq (tgt := 300) hC dL_sets_295 (by decide) (fun k9 => ?_) (fun k9 => ?_)
          · replace hV := hV.1 k9
            refine r_iinc (v := 1) (lo1 := [some (rv a0), some (.int a1), some (rv a2), none, some (.int a4), none, some (.int a6), some (.int a7), some (.int (a8 + 1)), some (.int a9), some (.int a10), none]) hC dL_sets_300 rfl (by decide) (pvI rfl) rfl ?_
            refine r_goto (tgt := 175) hC dL_sets_303 (by decide) ?_
            refine r_sub (lo1 := [some (rv a0), some (.int a1), some (rv a2), none, some (.int a4), none, some (.int a6), some (.int a7), some (.int (a8 + 1)), none, none, none]) ⟨Or.inr rfl, ⟨Or.inr rfl, ⟨Or.inr rfl, ⟨Or.inl rfl, ⟨Or.inr rfl, ⟨Or.inl rfl, ⟨Or.inr rfl, ⟨Or.inr rfl, ⟨Or.inr rfl, ⟨Or.inl rfl, ⟨Or.inl rfl, ⟨Or.inl rfl, trivial⟩⟩⟩⟩⟩⟩⟩⟩⟩⟩⟩⟩ ?_
            exact hC175 a0 a1 a2 a4 a6 a7 (a8 + 1) h3 hV
          · replace hV := hV.2 k9
            refine r_sub (lo1 := [none, none, none, none, none, none, none, none, none, none, none, none]) ⟨Or.inl rfl, ⟨Or.inl rfl, ⟨Or.inl rfl, ⟨Or.inl rfl, ⟨Or.inl rfl, ⟨Or.inl rfl, ⟨Or.inl rfl, ⟨Or.inl rfl, ⟨Or.inl rfl, ⟨Or.inl rfl, ⟨Or.inl rfl, ⟨Or.inl rfl, trivial⟩⟩⟩⟩⟩⟩⟩⟩⟩⟩⟩⟩ ?_
            exact ok_L_sets_298 hC hQ  h3 hV
    · replace hV := hV.2 k9
      refine r_aload_n hC dL_sets_198 rfl ?_
      refine r_iload_n hC dL_sets_199 rfl ?_
      refine r_iload hC dL_sets_200 rfl ?_
      refine r_iload hC dL_sets_202 rfl ?_
      obtain ⟨k9, hV⟩ := hV
      refine r_callV (ci := 6) (As := [.int a1, .int a10, .int a8]) hC dL_sets_204 rfl cf_X6_taken ml_7_31 im_X6_taken sl_X6_taken lq_6 rfl rfl k9 rfl ⟨(Nat.le_of_ble_eq_true rfl), (Nat.le_of_ble_eq_true rfl), (Nat.le_of_ble_eq_true rfl), (Nat.le_of_ble_eq_true rfl)⟩ cs0 (Nat.le_of_ble_eq_true rfl) (con_X6_taken a0 a1 a10 a8 h1 _ hV) rfl (kI (k := 7) (n := 433) (fun r2 h2 hV => ?_))
      refine r_istore (lo1 := [some (rv a0), some (.int a1), some (rv a2), none, some (.int a4), none, some (.int a6), some (.int a7), some (.int a8), some (.int a9), some (.int a10), some (.int r2)]) hC dL_sets_207 (Nat.le_of_ble_eq_true rfl) (pvI rfl) rfl ?_
      refine r_iload hC dL_sets_209 rfl ?_
      refine r_iload hC dL_sets_211 rfl ?_
      refine r_iadd hC dL_sets_213 ?_
      refine r_istore (lo1 := [some (rv a0), some (.int a1), some (rv a2), none, some (.int a4), none, some (.int a6), some (.int a7), some (.int a8), some (.int (a9 + r2)), some (.int a10), some (.int r2)]) hC dL_sets_214 (Nat.le_of_ble_eq_true rfl) (pvI rfl) rfl ?_
      refine r_iload hC dL_sets_216 rfl ?_
      refine r_iload hC dL_sets_218 rfl ?_
      refine r_iload hC dL_sets_220 rfl ?_
      refine r_icmp_ne (tgt := 229) hC dL_sets_222 (by decide) (fun k9 => ?_) (fun k9 => ?_)
      · replace hV := hV.1 k9
        refine r_iload hC dL_sets_229 rfl ?_
        refine r_sub (lo1 := [some (rv a0), some (.int a1), some (rv a2), none, some (.int a4), none, some (.int a6), none, some (.int a8), some (.int (a9 + r2)), some (.int a10), some (.int r2)]) ⟨Or.inr rfl, ⟨Or.inr rfl, ⟨Or.inr rfl, ⟨Or.inl rfl, ⟨Or.inr rfl, ⟨Or.inl rfl, ⟨Or.inr rfl, ⟨Or.inl rfl, ⟨Or.inr rfl, ⟨Or.inr rfl, ⟨Or.inr rfl, ⟨Or.inr rfl, trivial⟩⟩⟩⟩⟩⟩⟩⟩⟩⟩⟩⟩ ?_
        exact ok_L_sets_231 hC hQ hC175 ih a0 a1 a2 a4 a6 a8 (a9 + r2) a10 r2 a7 r2 h2 hV
      · replace hV := hV.2 k9
        refine r_iconst (v := 0) hC dL_sets_225 (by decide) ?_
        refine r_goto (tgt := 231) hC dL_sets_226 (by decide) ?_
        refine r_sub (lo1 := [some (rv a0), some (.int a1), some (rv a2), none, some (.int a4), none, some (.int a6), none, some (.int a8), some (.int (a9 + r2)), some (.int a10), some (.int r2)]) ⟨Or.inr rfl, ⟨Or.inr rfl, ⟨Or.inr rfl, ⟨Or.inl rfl, ⟨Or.inr rfl, ⟨Or.inl rfl, ⟨Or.inr rfl, ⟨Or.inl rfl, ⟨Or.inr rfl, ⟨Or.inr rfl, ⟨Or.inr rfl, ⟨Or.inr rfl, trivial⟩⟩⟩⟩⟩⟩⟩⟩⟩⟩⟩⟩ ?_
        exact ok_L_sets_231 hC hQ hC175 ih a0 a1 a2 a4 a6 a8 (a9 + r2) a10 r2 a7 0 h2 hV
set_option maxRecDepth 100000 in
set_option maxHeartbeats 4000000 in
theorem ok_L_sets_328 {E : Ev} {X : Xt} {l0 : Launch} {K : Int32 → Hp → Prop} (hC : Cx E X l0 RL cL_sets 12 rm_L_sets) (hQ : CQ E X "sets" (some .boolean) rm_L_sets (KI K)) (s0 : Int32) (h : Hp) (hV : V_L_sets_328 K s0 h) : WW E X h 7 433 328 [none, none, none, none, none, none, none, none, none, none, none, none] [.int s0] := by
  unfold V_L_sets_328 at hV
  exact r_zret hC hQ dL_sets_328 (Nat.le_of_ble_eq_true rfl) (Nat.le_of_ble_eq_true rfl) hV.1 ⟨_, rfl, hV.2⟩
set_option maxRecDepth 100000 in
set_option maxHeartbeats 4000000 in
theorem ok_L_sets_327 {E : Ev} {X : Xt} {l0 : Launch} {K : Int32 → Hp → Prop} (hC : Cx E X l0 RL cL_sets 12 rm_L_sets) (hQ : CQ E X "sets" (some .boolean) rm_L_sets (KI K)) (h : Hp) (hV : V_L_sets_327 K  h) : WW E X h 7 433 327 [none, none, none, none, none, none, none, none, none, none, none, none] [] := by
  unfold V_L_sets_327 at hV
  refine r_iconst (v := 0) hC dL_sets_327 (by decide) ?_
  exact ok_L_sets_328 hC hQ 0 h hV
set_option maxRecDepth 100000 in
set_option maxHeartbeats 4000000 in
theorem ok_L_sets_175 {E : Ev} {X : Xt} {l0 : Launch} {K : Int32 → Hp → Prop} (hC : Cx E X l0 RL cL_sets 12 rm_L_sets) (hQ : CQ E X "sets" (some .boolean) rm_L_sets (KI K)) : ∀ (n : Nat) (a0 : Nat) (a1 : Int32) (a2 : Nat) (a4 : Int32) (a6 : Int32) (a7 : Int32) (a8 : Int32) (h : Hp), V_L_sets_175 K n a0 a1 a2 a4 a6 a7 a8 h → WW E X h 7 433 175 [some (rv a0), some (.int a1), some (rv a2), none, some (.int a4), none, some (.int a6), some (.int a7), some (.int a8), none, none, none] [] := by
  intro n
  induction n with
  | zero => intro a0 a1 a2 a4 a6 a7 a8 h hV; exact hV.elim
  | succ n ih =>
    intro a0 a1 a2 a4 a6 a7 a8 h hV
    unfold V_L_sets_175 at hV
    refine r_iload hC dL_sets_175 rfl ?_
    refine r_bipush (v := 29) hC dL_sets_177 (by decide) ?_
    refine r_icmp_ge (tgt := 306) hC dL_sets_179 (by decide) (fun k9 => ?_) (fun k9 => ?_)
    · replace hV := hV.1 k9
      refine r_iload hC dL_sets_306 rfl ?_
      refine r_iload hC dL_sets_308 rfl ?_
      refine r_icmp_ne (tgt := 327) hC dL_sets_310 (by decide) (fun k9 => ?_) (fun k9 => ?_)
      · replace hV := hV.1 k9
        refine r_sub (lo1 := [none, none, none, none, none, none, none, none, none, none, none, none]) ⟨Or.inl rfl, ⟨Or.inl rfl, ⟨Or.inl rfl, ⟨Or.inl rfl, ⟨Or.inl rfl, ⟨Or.inl rfl, ⟨Or.inl rfl, ⟨Or.inl rfl, ⟨Or.inl rfl, ⟨Or.inl rfl, ⟨Or.inl rfl, ⟨Or.inl rfl, trivial⟩⟩⟩⟩⟩⟩⟩⟩⟩⟩⟩⟩ ?_
        exact ok_L_sets_327 hC hQ  h hV
      · replace hV := hV.2 k9
        refine r_aload_n hC dL_sets_313 rfl ?_
        refine r_iload_n hC dL_sets_314 rfl ?_
        refine r_iconst (v := 3) hC dL_sets_315 (by decide) ?_
        obtain ⟨k9, hV⟩ := hV
        refine r_callV (ci := 6) (As := [.int a1, .int 3]) hC dL_sets_316 rfl cf_X6_job ml_7_23 im_X6_job sl_X6_job lq_6 rfl rfl k9 rfl ⟨(Nat.le_of_ble_eq_true rfl), (Nat.le_of_ble_eq_true rfl), (Nat.le_of_ble_eq_true rfl), (Nat.le_of_ble_eq_true rfl)⟩ cs0 (Nat.le_of_ble_eq_true rfl) (con_X6_job a0 a1 3 h _ hV) rfl (kI (k := 7) (n := 433) (fun r1 h1 hV => ?_))
        refine r_iconst (v := 1) hC dL_sets_319 (by decide) ?_
        refine r_icmp_ne (tgt := 327) hC dL_sets_320 (by decide) (fun k9 => ?_) (fun k9 => ?_)
        · replace hV := hV.1 k9
          refine r_sub (lo1 := [none, none, none, none, none, none, none, none, none, none, none, none]) ⟨Or.inl rfl, ⟨Or.inl rfl, ⟨Or.inl rfl, ⟨Or.inl rfl, ⟨Or.inl rfl, ⟨Or.inl rfl, ⟨Or.inl rfl, ⟨Or.inl rfl, ⟨Or.inl rfl, ⟨Or.inl rfl, ⟨Or.inl rfl, ⟨Or.inl rfl, trivial⟩⟩⟩⟩⟩⟩⟩⟩⟩⟩⟩⟩ ?_
          exact ok_L_sets_327 hC hQ  h1 hV
        · replace hV := hV.2 k9
          refine r_iconst (v := 1) hC dL_sets_323 (by decide) ?_
          refine r_goto (tgt := 328) hC dL_sets_324 (by decide) ?_
          refine r_sub (lo1 := [none, none, none, none, none, none, none, none, none, none, none, none]) ⟨Or.inl rfl, ⟨Or.inl rfl, ⟨Or.inl rfl, ⟨Or.inl rfl, ⟨Or.inl rfl, ⟨Or.inl rfl, ⟨Or.inl rfl, ⟨Or.inl rfl, ⟨Or.inl rfl, ⟨Or.inl rfl, ⟨Or.inl rfl, ⟨Or.inl rfl, trivial⟩⟩⟩⟩⟩⟩⟩⟩⟩⟩⟩⟩ ?_
          exact ok_L_sets_328 hC hQ 1 h1 hV
    · replace hV := hV.2 k9
      refine r_iconst (v := 0) hC dL_sets_182 (by decide) ?_
      refine r_istore (lo1 := [some (rv a0), some (.int a1), some (rv a2), none, some (.int a4), none, some (.int a6), some (.int a7), some (.int a8), some (.int 0), none, none]) hC dL_sets_183 (Nat.le_of_ble_eq_true rfl) (pvI rfl) rfl ?_
      refine r_iconst (v := 0) hC dL_sets_185 (by decide) ?_
      refine r_istore (lo1 := [some (rv a0), some (.int a1), some (rv a2), none, some (.int a4), none, some (.int a6), some (.int a7), some (.int a8), some (.int 0), some (.int 0), none]) hC dL_sets_186 (Nat.le_of_ble_eq_true rfl) (pvI rfl) rfl ?_
      obtain ⟨n9, hV⟩ := hV
      exact ok_L_sets_188 hC hQ ih n9 a0 a1 a2 a4 a6 a7 a8 0 0 h hV
set_option maxRecDepth 100000 in
set_option maxHeartbeats 4000000 in
theorem ok_L_sets_34 {E : Ev} {X : Xt} {l0 : Launch} {K : Int32 → Hp → Prop} (hC : Cx E X l0 RL cL_sets 12 rm_L_sets) (hQ : CQ E X "sets" (some .boolean) rm_L_sets (KI K)) : ∀ (n : Nat) (a0 : Nat) (a1 : Int32) (a2 : Nat) (a3 : Int32) (a4 : Int32) (a5 : Int32) (a6 : Int32) (h : Hp), V_L_sets_34 K n a0 a1 a2 a3 a4 a5 a6 h → WW E X h 1 29 34 [some (rv a0), some (.int a1), some (rv a2), some (.int a3), some (.int a4), some (.int a5), some (.int a6), none, none, none, none, none] [] := by
  intro n
  induction n with
  | zero => intro a0 a1 a2 a3 a4 a5 a6 h hV; exact hV.elim
  | succ n ih =>
    intro a0 a1 a2 a3 a4 a5 a6 h hV
    unfold V_L_sets_34 at hV
    refine r_iload hC dL_sets_34 rfl ?_
    refine r_bipush (v := 29) hC dL_sets_36 (by decide) ?_
    refine r_icmp_ge (tgt := 140) hC dL_sets_38 (by decide) (fun k9 => ?_) (fun k9 => ?_)
    · replace hV := hV.1 k9
      refine r_aload_n hC dL_sets_140 rfl ?_
      refine r_iload_n hC dL_sets_141 rfl ?_
      obtain ⟨k9, hV⟩ := hV
      refine r_callV (ci := 6) (As := [.int a1]) hC dL_sets_142 rfl cf_X6_set ml_7_83 im_X6_set sl_X6_set lq_6 rfl rfl k9 rfl ⟨(Nat.le_of_ble_eq_true rfl), (Nat.le_of_ble_eq_true rfl), (Nat.le_of_ble_eq_true rfl), (Nat.le_of_ble_eq_true rfl)⟩ cs0 (Nat.le_of_ble_eq_true rfl) (con_X6_set a0 a1 h _ hV) rfl (kI (k := 7) (n := 433) (fun r1 h1 hV => ?_))
      refine r_istore (lo1 := [some (rv a0), some (.int a1), some (rv a2), some (.int a3), some (.int a4), some (.int a5), some (.int r1), none, none, none, none, none]) hC dL_sets_145 (Nat.le_of_ble_eq_true rfl) (pvI rfl) rfl ?_
      refine r_iload hC dL_sets_147 rfl ?_
      refine r_if_eq (tgt := 156) hC dL_sets_149 (by decide) (fun k9 => ?_) (fun k9 => ?_)
      · replace hV := hV.1 k9
        refine r_sub (lo1 := [none, none, none, none, none, none, some (.int r1), none, none, none, none, none]) ⟨Or.inl rfl, ⟨Or.inl rfl, ⟨Or.inl rfl, ⟨Or.inl rfl, ⟨Or.inl rfl, ⟨Or.inl rfl, ⟨Or.inr rfl, ⟨Or.inl rfl, ⟨Or.inl rfl, ⟨Or.inl rfl, ⟨Or.inl rfl, ⟨Or.inl rfl, trivial⟩⟩⟩⟩⟩⟩⟩⟩⟩⟩⟩⟩ ?_
        exact ok_L_sets_156 hC hQ r1 h1 hV
      · replace hV := hV.2 k9
        refine r_iload_n hC dL_sets_152 rfl ?_
        refine r_if_le (tgt := 169) hC dL_sets_153 (by decide) (fun k9 => ?_) (fun k9 => ?_)
        · replace hV := hV.1 k9
          refine r_iconst (v := 0) hC dL_sets_169 (by decide) ?_
          refine r_istore (lo1 := [some (rv a0), some (.int a1), some (rv a2), some (.int a3), some (.int a4), some (.int a5), some (.int r1), some (.int 0), none, none, none, none]) hC dL_sets_170 (Nat.le_of_ble_eq_true rfl) (pvI rfl) rfl ?_
          refine r_iconst (v := 0) hC dL_sets_172 (by decide) ?_
          refine r_istore (lo1 := [some (rv a0), some (.int a1), some (rv a2), some (.int a3), some (.int a4), some (.int a5), some (.int r1), some (.int 0), some (.int 0), none, none, none]) hC dL_sets_173 (Nat.le_of_ble_eq_true rfl) (pvI rfl) rfl ?_
          refine r_sub (lo1 := [some (rv a0), some (.int a1), some (rv a2), none, some (.int a4), none, some (.int r1), some (.int 0), some (.int 0), none, none, none]) ⟨Or.inr rfl, ⟨Or.inr rfl, ⟨Or.inr rfl, ⟨Or.inl rfl, ⟨Or.inr rfl, ⟨Or.inl rfl, ⟨Or.inr rfl, ⟨Or.inr rfl, ⟨Or.inr rfl, ⟨Or.inl rfl, ⟨Or.inl rfl, ⟨Or.inl rfl, trivial⟩⟩⟩⟩⟩⟩⟩⟩⟩⟩⟩⟩ ?_
          obtain ⟨n9, hV⟩ := hV
          exact ok_L_sets_175 hC hQ n9 a0 a1 a2 a4 r1 0 0 h1 hV
        · replace hV := hV.2 k9
          refine r_sub (lo1 := [none, none, none, none, none, none, some (.int r1), none, none, none, none, none]) ⟨Or.inl rfl, ⟨Or.inl rfl, ⟨Or.inl rfl, ⟨Or.inl rfl, ⟨Or.inl rfl, ⟨Or.inl rfl, ⟨Or.inr rfl, ⟨Or.inl rfl, ⟨Or.inl rfl, ⟨Or.inl rfl, ⟨Or.inl rfl, ⟨Or.inl rfl, trivial⟩⟩⟩⟩⟩⟩⟩⟩⟩⟩⟩⟩ ?_
          exact ok_L_sets_156 hC hQ r1 h1 hV
    · replace hV := hV.2 k9
      refine r_iconst (v := 0) hC dL_sets_41 (by decide) ?_
      refine r_istore (lo1 := [some (rv a0), some (.int a1), some (rv a2), some (.int a3), some (.int a4), some (.int a5), some (.int a6), some (.int 0), none, none, none, none]) hC dL_sets_42 (Nat.le_of_ble_eq_true rfl) (pvI rfl) rfl ?_
      refine r_aload_n hC dL_sets_44 rfl ?_
      refine r_iload hC dL_sets_45 rfl ?_
      refine r_aload_n hC dL_sets_47 rfl ?_
      refine r_iload_n hC dL_sets_48 rfl ?_
      refine r_iload hC dL_sets_49 rfl ?_
      obtain ⟨k9, hV⟩ := hV
      refine r_callV (ci := 6) (As := [.int a1, .int a6]) hC dL_sets_51 rfl cf_X6_need ml_7_77 im_X6_need sl_X6_need lq_6 rfl rfl k9 rfl ⟨(Nat.le_of_ble_eq_true rfl), (Nat.le_of_ble_eq_true rfl), (Nat.le_of_ble_eq_true rfl), (Nat.le_of_ble_eq_true rfl)⟩ (csI (csR cs0)) (Nat.le_of_ble_eq_true rfl) (con_X6_need a0 a1 a6 h _ hV) rfl (kI (k := 1) (n := 29) (fun r1 h1 hV => ?_))
      obtain ⟨k9, k8, hV⟩ := hV
      refine r_iast (kd := 60) hC dL_sets_54 (by decide) rfl k9 k8 (nmH (fun h2 k9 => ?_))
      replace hV := hV h2 k9
      refine r_iconst (v := 0) hC dL_sets_55 (by decide) ?_
      refine r_istore (lo1 := [some (rv a0), some (.int a1), some (rv a2), some (.int a3), some (.int a4), some (.int a5), some (.int a6), some (.int 0), some (.int 0), none, none, none]) hC dL_sets_56 (Nat.le_of_ble_eq_true rfl) (pvI rfl) rfl ?_
      obtain ⟨n9, hV⟩ := hV
      exact ok_L_sets_58 hC hQ ih n9 a0 a1 a2 a3 a4 a5 a6 0 0 h2 hV
set_option maxRecDepth 100000 in
set_option maxHeartbeats 4000000 in
theorem ok_L_sets_29 {E : Ev} {X : Xt} {l0 : Launch} {K : Int32 → Hp → Prop} (hC : Cx E X l0 RL cL_sets 12 rm_L_sets) (hQ : CQ E X "sets" (some .boolean) rm_L_sets (KI K)) (a0 : Nat) (a1 : Int32) (a2 : Nat) (a3 : Int32) (a4 : Int32) (s0 : Int32) (h : Hp) (hV : V_L_sets_29 K a0 a1 a2 a3 a4 s0 h) : WW E X h 1 29 29 [some (rv a0), some (.int a1), some (rv a2), some (.int a3), some (.int a4), none, none, none, none, none, none, none] [.int s0] := by
  unfold V_L_sets_29 at hV
  refine r_istore (lo1 := [some (rv a0), some (.int a1), some (rv a2), some (.int a3), some (.int a4), some (.int s0), none, none, none, none, none, none]) hC dL_sets_29 (Nat.le_of_ble_eq_true rfl) (pvI rfl) rfl ?_
  refine r_iconst (v := 0) hC dL_sets_31 (by decide) ?_
  refine r_istore (lo1 := [some (rv a0), some (.int a1), some (rv a2), some (.int a3), some (.int a4), some (.int s0), some (.int 0), none, none, none, none, none]) hC dL_sets_32 (Nat.le_of_ble_eq_true rfl) (pvI rfl) rfl ?_
  obtain ⟨n9, hV⟩ := hV
  exact ok_L_sets_34 hC hQ n9 a0 a1 a2 a3 a4 s0 0 h hV
set_option maxRecDepth 100000 in
set_option maxHeartbeats 4000000 in
theorem ok_L_sets_0 {E : Ev} {X : Xt} {l0 : Launch} {K : Int32 → Hp → Prop} (hC : Cx E X l0 RL cL_sets 12 rm_L_sets) (hQ : CQ E X "sets" (some .boolean) rm_L_sets (KI K)) (a0 : Nat) (a1 : Int32) (h : Hp) (hV : V_L_sets a0 a1 h K) : WW E X h 0 0 0 [some (rv a0), some (.int a1), none, none, none, none, none, none, none, none, none, none] [] := by
  unfold V_L_sets at hV
  refine r_bipush (v := 29) hC dL_sets_0 (by decide) ?_
  refine r_newarr (kd := 60) (d := 0) (N := 29) hC dL_sets_2 (by decide) rfl (by decide) rfl ka_0 (by decide) (by decide) (by decide) ⟨(Nat.le_of_ble_eq_true rfl), (Nat.le_of_ble_eq_true rfl)⟩ (fun q1 k9 k8 => nmH (fun h1 k7 => ?_))
  replace hV := hV q1 k9 k8 h1 k7
  refine r_astore_n (ii := 2) (lo1 := [some (rv a0), some (.int a1), some (rv q1), none, none, none, none, none, none, none, none, none]) hC dL_sets_4 rfl (Nat.le_of_ble_eq_true rfl) (pvI rfl) rfl ?_
  refine r_iconst (v := 0) hC dL_sets_5 (by decide) ?_
  refine r_istore_n (ii := 3) (lo1 := [some (rv a0), some (.int a1), some (rv q1), some (.int 0), none, none, none, none, none, none, none, none]) hC dL_sets_6 rfl (Nat.le_of_ble_eq_true rfl) (pvR rfl) rfl ?_
  refine r_aload_n hC dL_sets_7 rfl ?_
  refine r_iload_n hC dL_sets_8 rfl ?_
  refine r_iconst (v := 0) hC dL_sets_9 (by decide) ?_
  obtain ⟨k9, hV⟩ := hV
  refine r_callV (ci := 6) (As := [.int a1, .int 0]) hC dL_sets_10 rfl cf_X6_job ml_7_23 im_X6_job sl_X6_job lq_6 rfl rfl k9 rfl ⟨(Nat.le_of_ble_eq_true rfl), (Nat.le_of_ble_eq_true rfl), (Nat.le_of_ble_eq_true rfl), (Nat.le_of_ble_eq_true rfl)⟩ cs0 (Nat.le_of_ble_eq_true rfl) (con_X6_job a0 a1 0 h1 _ hV) rfl (kI (k := 1) (n := 29) (fun r1 h2 hV => ?_))
  refine r_istore (lo1 := [some (rv a0), some (.int a1), some (rv q1), some (.int 0), some (.int r1), none, none, none, none, none, none, none]) hC dL_sets_13 (Nat.le_of_ble_eq_true rfl) (pvI rfl) rfl ?_
  refine r_aload_n hC dL_sets_15 rfl ?_
  refine r_iload_n hC dL_sets_16 rfl ?_
  refine r_iconst (v := 3) hC dL_sets_17 (by decide) ?_
  obtain ⟨k9, hV⟩ := hV
  refine r_callV (ci := 6) (As := [.int a1, .int 3]) hC dL_sets_18 rfl cf_X6_job ml_7_23 im_X6_job sl_X6_job lq_6 rfl rfl k9 rfl ⟨(Nat.le_of_ble_eq_true rfl), (Nat.le_of_ble_eq_true rfl), (Nat.le_of_ble_eq_true rfl), (Nat.le_of_ble_eq_true rfl)⟩ cs0 (Nat.le_of_ble_eq_true rfl) (con_X6_job a0 a1 3 h2 _ hV) rfl (kI (k := 1) (n := 29) (fun r2 h3 hV => ?_))
  refine r_if_ne (tgt := 28) hC dL_sets_21 (by decide) (fun k9 => ?_) (fun k9 => ?_)
  · replace hV := hV.1 k9
    refine r_iconst (v := 0) hC dL_sets_28 (by decide) ?_
    exact ok_L_sets_29 hC hQ a0 a1 q1 0 r1 0 h3 hV
  · replace hV := hV.2 k9
    refine r_iconst (v := 1) hC dL_sets_24 (by decide) ?_
    refine r_goto (tgt := 29) hC dL_sets_25 (by decide) ?_
    exact ok_L_sets_29 hC hQ a0 a1 q1 0 r1 1 h3 hV
set_option maxRecDepth 100000 in
set_option maxHeartbeats 4000000 in
theorem con_L_sets {E : Ev} {l0 : Launch} (a0 : Nat) (a1 : Int32) (h : Hp) (K : Int32 → Hp → Prop) (hV : V_L_sets a0 a1 h K) : Con E l0 yL_sets cL_sets 12 (some .boolean) rm_L_sets [rv a0, .int a1] h (KI K) := by
  refine Con.of (by decide +kernel) (cat_R (cat_I cat_nil)) (Nat.le_of_ble_eq_true rfl) (fun X hC hQ => ?_)
  refine r_sub (lo1 := [some (rv a0), some (.int a1), none, none, none, none, none, none, none, none, none, none]) (show lsub [some (rv a0), some (.int a1), none, none, none, none, none, none, none, none, none, none] _ from ⟨Or.inr rfl, ⟨Or.inr rfl, ⟨Or.inr rfl, ⟨Or.inr rfl, ⟨Or.inr rfl, ⟨Or.inr rfl, ⟨Or.inr rfl, ⟨Or.inr rfl, ⟨Or.inr rfl, ⟨Or.inr rfl, ⟨Or.inr rfl, ⟨Or.inr rfl, trivial⟩⟩⟩⟩⟩⟩⟩⟩⟩⟩⟩⟩) ?_
  exact ok_L_sets_0 hC hQ a0 a1 h hV
theorem dL_jobs_0 : decode cL_jobs 0 = .ok (.aload_n 0, 1) := by decide +kernel
theorem dL_jobs_1 : decode cL_jobs 1 = .ok (.iconst 1, 1) := by decide +kernel
theorem dL_jobs_2 : decode cL_jobs 2 = .ok (.invokevirtual 13, 3) := by decide +kernel
theorem dL_jobs_5 : decode cL_jobs 5 = .ok (.istore 4, 2) := by decide +kernel
theorem dL_jobs_7 : decode cL_jobs 7 = .ok (.iload 4, 2) := by decide +kernel
theorem dL_jobs_9 : decode cL_jobs 9 = .ok (.ifCond .eq 9, 3) := by decide +kernel
theorem dL_jobs_12 : decode cL_jobs 12 = .ok (.iload_n 1, 1) := by decide +kernel
theorem dL_jobs_13 : decode cL_jobs 13 = .ok (.bipush 10, 2) := by decide +kernel
theorem dL_jobs_15 : decode cL_jobs 15 = .ok (.if_icmp .ge 140, 3) := by decide +kernel
theorem dL_jobs_18 : decode cL_jobs 18 = .ok (.aload_n 0, 1) := by decide +kernel
theorem dL_jobs_19 : decode cL_jobs 19 = .ok (.iload_n 2, 1) := by decide +kernel
theorem dL_jobs_20 : decode cL_jobs 20 = .ok (.iload_n 3, 1) := by decide +kernel
theorem dL_jobs_21 : decode cL_jobs 21 = .ok (.invokestatic 86, 3) := by decide +kernel
theorem dL_jobs_24 : decode cL_jobs 24 = .ok (.iload_n 2, 1) := by decide +kernel
theorem dL_jobs_25 : decode cL_jobs 25 = .ok (.iconst 4, 1) := by decide +kernel
theorem dL_jobs_26 : decode cL_jobs 26 = .ok (.ishr, 1) := by decide +kernel
theorem dL_jobs_27 : decode cL_jobs 27 = .ok (.aload_n 0, 1) := by decide +kernel
theorem dL_jobs_28 : decode cL_jobs 28 = .ok (.iconst 0, 1) := by decide +kernel
theorem dL_jobs_29 : decode cL_jobs 29 = .ok (.invokevirtual 13, 3) := by decide +kernel
theorem dL_jobs_32 : decode cL_jobs 32 = .ok (.invokestatic 48, 3) := by decide +kernel
theorem dL_jobs_35 : decode cL_jobs 35 = .ok (.istore 5, 2) := by decide +kernel
theorem dL_jobs_37 : decode cL_jobs 37 = .ok (.aload_n 0, 1) := by decide +kernel
theorem dL_jobs_38 : decode cL_jobs 38 = .ok (.iload 5, 2) := by decide +kernel
theorem dL_jobs_40 : decode cL_jobs 40 = .ok (.bipush 20, 2) := by decide +kernel
theorem dL_jobs_42 : decode cL_jobs 42 = .ok (.iload_n 3, 1) := by decide +kernel
theorem dL_jobs_43 : decode cL_jobs 43 = .ok (.iconst 3, 1) := by decide +kernel
theorem dL_jobs_44 : decode cL_jobs 44 = .ok (.ishr, 1) := by decide +kernel
theorem dL_jobs_45 : decode cL_jobs 45 = .ok (.bipush 90, 2) := by decide +kernel
theorem dL_jobs_47 : decode cL_jobs 47 = .ok (.invokestatic 48, 3) := by decide +kernel
theorem dL_jobs_50 : decode cL_jobs 50 = .ok (.iadd, 1) := by decide +kernel
theorem dL_jobs_51 : decode cL_jobs 51 = .ok (.iload_n 2, 1) := by decide +kernel
theorem dL_jobs_52 : decode cL_jobs 52 = .ok (.bipush 40, 2) := by decide +kernel
theorem dL_jobs_54 : decode cL_jobs 54 = .ok (.invokestatic 48, 3) := by decide +kernel
theorem dL_jobs_57 : decode cL_jobs 57 = .ok (.invokevirtual 90, 3) := by decide +kernel
theorem dL_jobs_60 : decode cL_jobs 60 = .ok (.istore 6, 2) := by decide +kernel
theorem dL_jobs_62 : decode cL_jobs 62 = .ok (.aload_n 0, 1) := by decide +kernel
theorem dL_jobs_63 : decode cL_jobs 63 = .ok (.iconst 0, 1) := by decide +kernel
theorem dL_jobs_64 : decode cL_jobs 64 = .ok (.invokevirtual 13, 3) := by decide +kernel
theorem dL_jobs_67 : decode cL_jobs 67 = .ok (.ifCond .ne 15, 3) := by decide +kernel
theorem dL_jobs_70 : decode cL_jobs 70 = .ok (.iload 6, 2) := by decide +kernel
theorem dL_jobs_72 : decode cL_jobs 72 = .ok (.iconst (-1), 1) := by decide +kernel
theorem dL_jobs_73 : decode cL_jobs 73 = .ok (.if_icmp .ne 7, 3) := by decide +kernel
theorem dL_jobs_76 : decode cL_jobs 76 = .ok (.iconst 1, 1) := by decide +kernel
theorem dL_jobs_77 : decode cL_jobs 77 = .ok (.goto 4, 3) := by decide +kernel
theorem dL_jobs_80 : decode cL_jobs 80 = .ok (.iconst 0, 1) := by decide +kernel
theorem dL_jobs_81 : decode cL_jobs 81 = .ok (.ireturn, 1) := by decide +kernel
theorem dL_jobs_82 : decode cL_jobs 82 = .ok (.iload 6, 2) := by decide +kernel
theorem dL_jobs_84 : decode cL_jobs 84 = .ok (.bipush (-4), 2) := by decide +kernel
theorem dL_jobs_86 : decode cL_jobs 86 = .ok (.if_icmp .eq 63, 3) := by decide +kernel
theorem dL_jobs_89 : decode cL_jobs 89 = .ok (.iload 4, 2) := by decide +kernel
theorem dL_jobs_91 : decode cL_jobs 91 = .ok (.bipush 12, 2) := by decide +kernel
theorem dL_jobs_93 : decode cL_jobs 93 = .ok (.if_icmp .ne 13, 3) := by decide +kernel
theorem dL_jobs_96 : decode cL_jobs 96 = .ok (.iload 6, 2) := by decide +kernel
theorem dL_jobs_98 : decode cL_jobs 98 = .ok (.bipush (-3), 2) := by decide +kernel
theorem dL_jobs_100 : decode cL_jobs 100 = .ok (.if_icmp .ne 53, 3) := by decide +kernel
theorem dL_jobs_103 : decode cL_jobs 103 = .ok (.goto 32, 3) := by decide +kernel
theorem dL_jobs_106 : decode cL_jobs 106 = .ok (.iload 6, 2) := by decide +kernel
theorem dL_jobs_108 : decode cL_jobs 108 = .ok (.iload 4, 2) := by decide +kernel
theorem dL_jobs_110 : decode cL_jobs 110 = .ok (.if_icmp .ne 43, 3) := by decide +kernel
theorem dL_jobs_113 : decode cL_jobs 113 = .ok (.aload_n 0, 1) := by decide +kernel
theorem dL_jobs_114 : decode cL_jobs 114 = .ok (.iload 4, 2) := by decide +kernel
theorem dL_jobs_116 : decode cL_jobs 116 = .ok (.iconst 0, 1) := by decide +kernel
theorem dL_jobs_117 : decode cL_jobs 117 = .ok (.invokevirtual 23, 3) := by decide +kernel
theorem dL_jobs_120 : decode cL_jobs 120 = .ok (.iload 5, 2) := by decide +kernel
theorem dL_jobs_122 : decode cL_jobs 122 = .ok (.if_icmp .ne 31, 3) := by decide +kernel
theorem dL_jobs_125 : decode cL_jobs 125 = .ok (.aload_n 0, 1) := by decide +kernel
theorem dL_jobs_126 : decode cL_jobs 126 = .ok (.iload 4, 2) := by decide +kernel
theorem dL_jobs_128 : decode cL_jobs 128 = .ok (.iconst 3, 1) := by decide +kernel
theorem dL_jobs_129 : decode cL_jobs 129 = .ok (.invokevirtual 23, 3) := by decide +kernel
theorem dL_jobs_132 : decode cL_jobs 132 = .ok (.ifCond .ne 21, 3) := by decide +kernel
theorem dL_jobs_135 : decode cL_jobs 135 = .ok (.aload_n 0, 1) := by decide +kernel
theorem dL_jobs_136 : decode cL_jobs 136 = .ok (.iload 5, 2) := by decide +kernel
theorem dL_jobs_138 : decode cL_jobs 138 = .ok (.bipush 9, 2) := by decide +kernel
theorem dL_jobs_140 : decode cL_jobs 140 = .ok (.iconst 0, 1) := by decide +kernel
theorem dL_jobs_141 : decode cL_jobs 141 = .ok (.invokevirtual 90, 3) := by decide +kernel
theorem dL_jobs_144 : decode cL_jobs 144 = .ok (.bipush (-2), 2) := by decide +kernel
theorem dL_jobs_146 : decode cL_jobs 146 = .ok (.if_icmp .ne 7, 3) := by decide +kernel
theorem dL_jobs_149 : decode cL_jobs 149 = .ok (.iconst 1, 1) := by decide +kernel
theorem dL_jobs_150 : decode cL_jobs 150 = .ok (.goto 4, 3) := by decide +kernel
theorem dL_jobs_153 : decode cL_jobs 153 = .ok (.iconst 0, 1) := by decide +kernel
theorem dL_jobs_154 : decode cL_jobs 154 = .ok (.ireturn, 1) := by decide +kernel
theorem dL_jobs_155 : decode cL_jobs 155 = .ok (.iload_n 3, 1) := by decide +kernel
theorem dL_jobs_156 : decode cL_jobs 156 = .ok (.iload 4, 2) := by decide +kernel
theorem dL_jobs_158 : decode cL_jobs 158 = .ok (.invokestatic 48, 3) := by decide +kernel
theorem dL_jobs_161 : decode cL_jobs 161 = .ok (.istore 5, 2) := by decide +kernel
theorem dL_jobs_163 : decode cL_jobs 163 = .ok (.aload_n 0, 1) := by decide +kernel
theorem dL_jobs_164 : decode cL_jobs 164 = .ok (.iload 5, 2) := by decide +kernel
theorem dL_jobs_166 : decode cL_jobs 166 = .ok (.iconst 3, 1) := by decide +kernel
theorem dL_jobs_167 : decode cL_jobs 167 = .ok (.invokevirtual 23, 3) := by decide +kernel
theorem dL_jobs_170 : decode cL_jobs 170 = .ok (.istore 6, 2) := by decide +kernel
theorem dL_jobs_172 : decode cL_jobs 172 = .ok (.iload_n 1, 1) := by decide +kernel
theorem dL_jobs_173 : decode cL_jobs 173 = .ok (.bipush 12, 2) := by decide +kernel
theorem dL_jobs_175 : decode cL_jobs 175 = .ok (.if_icmp .ge 10, 3) := by decide +kernel
theorem dL_jobs_178 : decode cL_jobs 178 = .ok (.aload_n 0, 1) := by decide +kernel
theorem dL_jobs_179 : decode cL_jobs 179 = .ok (.iload 5, 2) := by decide +kernel
theorem dL_jobs_181 : decode cL_jobs 181 = .ok (.invokestatic 93, 3) := by decide +kernel
theorem dL_jobs_184 : decode cL_jobs 184 = .ok (.ireturn, 1) := by decide +kernel
theorem dL_jobs_185 : decode cL_jobs 185 = .ok (.iload_n 1, 1) := by decide +kernel
theorem dL_jobs_186 : decode cL_jobs 186 = .ok (.bipush 12, 2) := by decide +kernel
theorem dL_jobs_188 : decode cL_jobs 188 = .ok (.if_icmp .ne 92, 3) := by decide +kernel
theorem dL_jobs_191 : decode cL_jobs 191 = .ok (.aload_n 0, 1) := by decide +kernel
theorem dL_jobs_192 : decode cL_jobs 192 = .ok (.iload 5, 2) := by decide +kernel
theorem dL_jobs_194 : decode cL_jobs 194 = .ok (.invokevirtual 97, 3) := by decide +kernel
theorem dL_jobs_197 : decode cL_jobs 197 = .ok (.istore 7, 2) := by decide +kernel
theorem dL_jobs_199 : decode cL_jobs 199 = .ok (.iload 6, 2) := by decide +kernel
theorem dL_jobs_201 : decode cL_jobs 201 = .ok (.ifCond .ne 8, 3) := by decide +kernel
theorem dL_jobs_204 : decode cL_jobs 204 = .ok (.iload 7, 2) := by decide +kernel
theorem dL_jobs_206 : decode cL_jobs 206 = .ok (.ifCond .ge 43, 3) := by decide +kernel
theorem dL_jobs_209 : decode cL_jobs 209 = .ok (.iload 6, 2) := by decide +kernel
theorem dL_jobs_211 : decode cL_jobs 211 = .ok (.ifCond .eq 18, 3) := by decide +kernel
theorem dL_jobs_214 : decode cL_jobs 214 = .ok (.iload 7, 2) := by decide +kernel
theorem dL_jobs_216 : decode cL_jobs 216 = .ok (.bipush (-4), 2) := by decide +kernel
theorem dL_jobs_218 : decode cL_jobs 218 = .ok (.if_icmp .ne 7, 3) := by decide +kernel
theorem dL_jobs_221 : decode cL_jobs 221 = .ok (.iconst 1, 1) := by decide +kernel
theorem dL_jobs_222 : decode cL_jobs 222 = .ok (.goto 26, 3) := by decide +kernel
theorem dL_jobs_225 : decode cL_jobs 225 = .ok (.iconst 0, 1) := by decide +kernel
theorem dL_jobs_226 : decode cL_jobs 226 = .ok (.goto 22, 3) := by decide +kernel
theorem dL_jobs_229 : decode cL_jobs 229 = .ok (.iload 7, 2) := by decide +kernel
theorem dL_jobs_231 : decode cL_jobs 231 = .ok (.bipush (-6), 2) := by decide +kernel
theorem dL_jobs_233 : decode cL_jobs 233 = .ok (.if_icmp .le 14, 3) := by decide +kernel
theorem dL_jobs_236 : decode cL_jobs 236 = .ok (.iload 7, 2) := by decide +kernel
theorem dL_jobs_238 : decode cL_jobs 238 = .ok (.bipush (-2), 2) := by decide +kernel
theorem dL_jobs_240 : decode cL_jobs 240 = .ok (.if_icmp .ge 7, 3) := by decide +kernel
theorem dL_jobs_243 : decode cL_jobs 243 = .ok (.iconst 1, 1) := by decide +kernel
theorem dL_jobs_244 : decode cL_jobs 244 = .ok (.goto 4, 3) := by decide +kernel
theorem dL_jobs_247 : decode cL_jobs 247 = .ok (.iconst 0, 1) := by decide +kernel
theorem dL_jobs_248 : decode cL_jobs 248 = .ok (.ireturn, 1) := by decide +kernel
theorem dL_jobs_249 : decode cL_jobs 249 = .ok (.iload 7, 2) := by decide +kernel
theorem dL_jobs_251 : decode cL_jobs 251 = .ok (.ifCond .le 27, 3) := by decide +kernel
theorem dL_jobs_254 : decode cL_jobs 254 = .ok (.aload_n 0, 1) := by decide +kernel
theorem dL_jobs_255 : decode cL_jobs 255 = .ok (.iload 5, 2) := by decide +kernel
theorem dL_jobs_257 : decode cL_jobs 257 = .ok (.invokestatic 93, 3) := by decide +kernel
theorem dL_jobs_260 : decode cL_jobs 260 = .ok (.ifCond .eq 18, 3) := by decide +kernel
theorem dL_jobs_263 : decode cL_jobs 263 = .ok (.aload_n 0, 1) := by decide +kernel
theorem dL_jobs_264 : decode cL_jobs 264 = .ok (.iload 5, 2) := by decide +kernel
theorem dL_jobs_266 : decode cL_jobs 266 = .ok (.iconst 3, 1) := by decide +kernel
theorem dL_jobs_267 : decode cL_jobs 267 = .ok (.invokevirtual 23, 3) := by decide +kernel
theorem dL_jobs_270 : decode cL_jobs 270 = .ok (.iconst 1, 1) := by decide +kernel
theorem dL_jobs_271 : decode cL_jobs 271 = .ok (.if_icmp .ne 7, 3) := by decide +kernel
theorem dL_jobs_274 : decode cL_jobs 274 = .ok (.iconst 1, 1) := by decide +kernel
theorem dL_jobs_275 : decode cL_jobs 275 = .ok (.goto 4, 3) := by decide +kernel
theorem dL_jobs_278 : decode cL_jobs 278 = .ok (.iconst 0, 1) := by decide +kernel
theorem dL_jobs_279 : decode cL_jobs 279 = .ok (.ireturn, 1) := by decide +kernel
theorem dL_jobs_280 : decode cL_jobs 280 = .ok (.iload_n 1, 1) := by decide +kernel
theorem dL_jobs_281 : decode cL_jobs 281 = .ok (.bipush 13, 2) := by decide +kernel
theorem dL_jobs_283 : decode cL_jobs 283 = .ok (.if_icmp .ne 79, 3) := by decide +kernel
theorem dL_jobs_286 : decode cL_jobs 286 = .ok (.aload_n 0, 1) := by decide +kernel
theorem dL_jobs_287 : decode cL_jobs 287 = .ok (.bipush 11, 2) := by decide +kernel
theorem dL_jobs_289 : decode cL_jobs 289 = .ok (.invokevirtual 13, 3) := by decide +kernel
theorem dL_jobs_292 : decode cL_jobs 292 = .ok (.aload_n 0, 1) := by decide +kernel
theorem dL_jobs_293 : decode cL_jobs 293 = .ok (.iload 5, 2) := by decide +kernel
theorem dL_jobs_295 : decode cL_jobs 295 = .ok (.iconst 2, 1) := by decide +kernel
theorem dL_jobs_296 : decode cL_jobs 296 = .ok (.invokevirtual 23, 3) := by decide +kernel
theorem dL_jobs_299 : decode cL_jobs 299 = .ok (.isub, 1) := by decide +kernel
theorem dL_jobs_300 : decode cL_jobs 300 = .ok (.istore 7, 2) := by decide +kernel
theorem dL_jobs_302 : decode cL_jobs 302 = .ok (.aload_n 0, 1) := by decide +kernel
theorem dL_jobs_303 : decode cL_jobs 303 = .ok (.iload 5, 2) := by decide +kernel
theorem dL_jobs_305 : decode cL_jobs 305 = .ok (.invokevirtual 100, 3) := by decide +kernel
theorem dL_jobs_308 : decode cL_jobs 308 = .ok (.iload 6, 2) := by decide +kernel
theorem dL_jobs_310 : decode cL_jobs 310 = .ok (.iconst 1, 1) := by decide +kernel
theorem dL_jobs_311 : decode cL_jobs 311 = .ok (.if_icmp .eq 8, 3) := by decide +kernel
theorem dL_jobs_314 : decode cL_jobs 314 = .ok (.bipush (-4), 2) := by decide +kernel
theorem dL_jobs_316 : decode cL_jobs 316 = .ok (.goto 14, 3) := by decide +kernel
theorem dL_jobs_319 : decode cL_jobs 319 = .ok (.iload 7, 2) := by decide +kernel
theorem dL_jobs_321 : decode cL_jobs 321 = .ok (.ifCond .ge 7, 3) := by decide +kernel
theorem dL_jobs_324 : decode cL_jobs 324 = .ok (.iconst 0, 1) := by decide +kernel
theorem dL_jobs_325 : decode cL_jobs 325 = .ok (.goto 5, 3) := by decide +kernel
theorem dL_jobs_328 : decode cL_jobs 328 = .ok (.iload 7, 2) := by decide +kernel
theorem dL_jobs_330 : decode cL_jobs 330 = .ok (.if_icmp .ne 30, 3) := by decide +kernel
theorem dL_jobs_333 : decode cL_jobs 333 = .ok (.iload 6, 2) := by decide +kernel
theorem dL_jobs_335 : decode cL_jobs 335 = .ok (.iconst 1, 1) := by decide +kernel
theorem dL_jobs_336 : decode cL_jobs 336 = .ok (.if_icmp .ne 20, 3) := by decide +kernel
theorem dL_jobs_339 : decode cL_jobs 339 = .ok (.aload_n 0, 1) := by decide +kernel
theorem dL_jobs_340 : decode cL_jobs 340 = .ok (.iload 5, 2) := by decide +kernel
theorem dL_jobs_342 : decode cL_jobs 342 = .ok (.bipush 9, 2) := by decide +kernel
theorem dL_jobs_344 : decode cL_jobs 344 = .ok (.invokevirtual 23, 3) := by decide +kernel
theorem dL_jobs_347 : decode cL_jobs 347 = .ok (.aload_n 0, 1) := by decide +kernel
theorem dL_jobs_348 : decode cL_jobs 348 = .ok (.bipush 11, 2) := by decide +kernel
theorem dL_jobs_350 : decode cL_jobs 350 = .ok (.invokevirtual 13, 3) := by decide +kernel
theorem dL_jobs_353 : decode cL_jobs 353 = .ok (.if_icmp .ne 7, 3) := by decide +kernel
theorem dL_jobs_356 : decode cL_jobs 356 = .ok (.iconst 1, 1) := by decide +kernel
theorem dL_jobs_357 : decode cL_jobs 357 = .ok (.goto 4, 3) := by decide +kernel
theorem dL_jobs_360 : decode cL_jobs 360 = .ok (.iconst 0, 1) := by decide +kernel
theorem dL_jobs_361 : decode cL_jobs 361 = .ok (.ireturn, 1) := by decide +kernel
theorem dL_jobs_362 : decode cL_jobs 362 = .ok (.aload_n 0, 1) := by decide +kernel
theorem dL_jobs_363 : decode cL_jobs 363 = .ok (.iload 5, 2) := by decide +kernel
theorem dL_jobs_365 : decode cL_jobs 365 = .ok (.bipush 7, 2) := by decide +kernel
theorem dL_jobs_367 : decode cL_jobs 367 = .ok (.invokevirtual 23, 3) := by decide +kernel
theorem dL_jobs_370 : decode cL_jobs 370 = .ok (.istore 7, 2) := by decide +kernel
theorem dL_jobs_372 : decode cL_jobs 372 = .ok (.aload_n 0, 1) := by decide +kernel
theorem dL_jobs_373 : decode cL_jobs 373 = .ok (.bipush 10, 2) := by decide +kernel
theorem dL_jobs_375 : decode cL_jobs 375 = .ok (.invokevirtual 13, 3) := by decide +kernel
theorem dL_jobs_378 : decode cL_jobs 378 = .ok (.istore 8, 2) := by decide +kernel
theorem dL_jobs_380 : decode cL_jobs 380 = .ok (.iload_n 1, 1) := by decide +kernel
theorem dL_jobs_381 : decode cL_jobs 381 = .ok (.bipush 14, 2) := by decide +kernel
theorem dL_jobs_383 : decode cL_jobs 383 = .ok (.if_icmp .ne 81, 3) := by decide +kernel
theorem dL_jobs_386 : decode cL_jobs 386 = .ok (.aload_n 0, 1) := by decide +kernel
theorem dL_jobs_387 : decode cL_jobs 387 = .ok (.iload 5, 2) := by decide +kernel
theorem dL_jobs_389 : decode cL_jobs 389 = .ok (.invokevirtual 103, 3) := by decide +kernel
theorem dL_jobs_392 : decode cL_jobs 392 = .ok (.istore 9, 2) := by decide +kernel
theorem dL_jobs_394 : decode cL_jobs 394 = .ok (.iload 6, 2) := by decide +kernel
theorem dL_jobs_396 : decode cL_jobs 396 = .ok (.iconst 2, 1) := by decide +kernel
theorem dL_jobs_397 : decode cL_jobs 397 = .ok (.if_icmp .eq 18, 3) := by decide +kernel
theorem dL_jobs_400 : decode cL_jobs 400 = .ok (.iload 9, 2) := by decide +kernel
theorem dL_jobs_402 : decode cL_jobs 402 = .ok (.bipush (-4), 2) := by decide +kernel
theorem dL_jobs_404 : decode cL_jobs 404 = .ok (.if_icmp .ne 7, 3) := by decide +kernel
theorem dL_jobs_407 : decode cL_jobs 407 = .ok (.iconst 1, 1) := by decide +kernel
theorem dL_jobs_408 : decode cL_jobs 408 = .ok (.goto 55, 3) := by decide +kernel
theorem dL_jobs_411 : decode cL_jobs 411 = .ok (.iconst 0, 1) := by decide +kernel
theorem dL_jobs_412 : decode cL_jobs 412 = .ok (.goto 51, 3) := by decide +kernel
theorem dL_jobs_415 : decode cL_jobs 415 = .ok (.iload 9, 2) := by decide +kernel
theorem dL_jobs_417 : decode cL_jobs 417 = .ok (.aload_n 0, 1) := by decide +kernel
theorem dL_jobs_418 : decode cL_jobs 418 = .ok (.bipush 10, 2) := by decide +kernel
theorem dL_jobs_420 : decode cL_jobs 420 = .ok (.invokevirtual 13, 3) := by decide +kernel
theorem dL_jobs_423 : decode cL_jobs 423 = .ok (.iload 8, 2) := by decide +kernel
theorem dL_jobs_425 : decode cL_jobs 425 = .ok (.isub, 1) := by decide +kernel
theorem dL_jobs_426 : decode cL_jobs 426 = .ok (.if_icmp .ne 36, 3) := by decide +kernel
theorem dL_jobs_429 : decode cL_jobs 429 = .ok (.iload 9, 2) := by decide +kernel
theorem dL_jobs_431 : decode cL_jobs 431 = .ok (.iload 7, 2) := by decide +kernel
theorem dL_jobs_433 : decode cL_jobs 433 = .ok (.if_icmp .gt 29, 3) := by decide +kernel
theorem dL_jobs_436 : decode cL_jobs 436 = .ok (.aload_n 0, 1) := by decide +kernel
theorem dL_jobs_437 : decode cL_jobs 437 = .ok (.iload 5, 2) := by decide +kernel
theorem dL_jobs_439 : decode cL_jobs 439 = .ok (.bipush 7, 2) := by decide +kernel
theorem dL_jobs_441 : decode cL_jobs 441 = .ok (.invokevirtual 23, 3) := by decide +kernel
theorem dL_jobs_444 : decode cL_jobs 444 = .ok (.ifCond .ne 18, 3) := by decide +kernel
theorem dL_jobs_447 : decode cL_jobs 447 = .ok (.aload_n 0, 1) := by decide +kernel
theorem dL_jobs_448 : decode cL_jobs 448 = .ok (.iload 5, 2) := by decide +kernel
theorem dL_jobs_450 : decode cL_jobs 450 = .ok (.iconst 3, 1) := by decide +kernel
theorem dL_jobs_451 : decode cL_jobs 451 = .ok (.invokevirtual 23, 3) := by decide +kernel
theorem dL_jobs_454 : decode cL_jobs 454 = .ok (.iconst 3, 1) := by decide +kernel
theorem dL_jobs_455 : decode cL_jobs 455 = .ok (.if_icmp .ne 7, 3) := by decide +kernel
theorem dL_jobs_458 : decode cL_jobs 458 = .ok (.iconst 1, 1) := by decide +kernel
theorem dL_jobs_459 : decode cL_jobs 459 = .ok (.goto 4, 3) := by decide +kernel
theorem dL_jobs_462 : decode cL_jobs 462 = .ok (.iconst 0, 1) := by decide +kernel
theorem dL_jobs_463 : decode cL_jobs 463 = .ok (.ireturn, 1) := by decide +kernel
theorem dL_jobs_464 : decode cL_jobs 464 = .ok (.aload_n 0, 1) := by decide +kernel
theorem dL_jobs_465 : decode cL_jobs 465 = .ok (.iload 5, 2) := by decide +kernel
theorem dL_jobs_467 : decode cL_jobs 467 = .ok (.invokevirtual 106, 3) := by decide +kernel
theorem dL_jobs_470 : decode cL_jobs 470 = .ok (.istore 9, 2) := by decide +kernel
theorem dL_jobs_472 : decode cL_jobs 472 = .ok (.iload 6, 2) := by decide +kernel
theorem dL_jobs_474 : decode cL_jobs 474 = .ok (.iconst 1, 1) := by decide +kernel
theorem dL_jobs_475 : decode cL_jobs 475 = .ok (.if_icmp .le 18, 3) := by decide +kernel
theorem dL_jobs_478 : decode cL_jobs 478 = .ok (.iload 9, 2) := by decide +kernel
theorem dL_jobs_480 : decode cL_jobs 480 = .ok (.bipush (-4), 2) := by decide +kernel
theorem dL_jobs_482 : decode cL_jobs 482 = .ok (.if_icmp .ne 7, 3) := by decide +kernel
theorem dL_jobs_485 : decode cL_jobs 485 = .ok (.iconst 1, 1) := by decide +kernel
theorem dL_jobs_486 : decode cL_jobs 486 = .ok (.goto 51, 3) := by decide +kernel
theorem dL_jobs_489 : decode cL_jobs 489 = .ok (.iconst 0, 1) := by decide +kernel
theorem dL_jobs_490 : decode cL_jobs 490 = .ok (.goto 47, 3) := by decide +kernel
theorem dL_jobs_493 : decode cL_jobs 493 = .ok (.iload 9, 2) := by decide +kernel
theorem dL_jobs_495 : decode cL_jobs 495 = .ok (.iload 7, 2) := by decide +kernel
theorem dL_jobs_497 : decode cL_jobs 497 = .ok (.aload_n 0, 1) := by decide +kernel
theorem dL_jobs_498 : decode cL_jobs 498 = .ok (.bipush 10, 2) := by decide +kernel
theorem dL_jobs_500 : decode cL_jobs 500 = .ok (.invokevirtual 13, 3) := by decide +kernel
theorem dL_jobs_503 : decode cL_jobs 503 = .ok (.iload 8, 2) := by decide +kernel
theorem dL_jobs_505 : decode cL_jobs 505 = .ok (.isub, 1) := by decide +kernel
theorem dL_jobs_506 : decode cL_jobs 506 = .ok (.isub, 1) := by decide +kernel
theorem dL_jobs_507 : decode cL_jobs 507 = .ok (.if_icmp .ne 29, 3) := by decide +kernel
theorem dL_jobs_510 : decode cL_jobs 510 = .ok (.aload_n 0, 1) := by decide +kernel
theorem dL_jobs_511 : decode cL_jobs 511 = .ok (.iload 5, 2) := by decide +kernel
theorem dL_jobs_513 : decode cL_jobs 513 = .ok (.iconst 3, 1) := by decide +kernel
theorem dL_jobs_514 : decode cL_jobs 514 = .ok (.invokevirtual 23, 3) := by decide +kernel
theorem dL_jobs_517 : decode cL_jobs 517 = .ok (.iconst 4, 1) := by decide +kernel
theorem dL_jobs_518 : decode cL_jobs 518 = .ok (.if_icmp .ne 18, 3) := by decide +kernel
theorem dL_jobs_521 : decode cL_jobs 521 = .ok (.aload_n 0, 1) := by decide +kernel
theorem dL_jobs_522 : decode cL_jobs 522 = .ok (.iload 5, 2) := by decide +kernel
theorem dL_jobs_524 : decode cL_jobs 524 = .ok (.bipush 7, 2) := by decide +kernel
theorem dL_jobs_526 : decode cL_jobs 526 = .ok (.invokevirtual 23, 3) := by decide +kernel
theorem dL_jobs_529 : decode cL_jobs 529 = .ok (.ifCond .ne 7, 3) := by decide +kernel
theorem dL_jobs_532 : decode cL_jobs 532 = .ok (.iconst 1, 1) := by decide +kernel
theorem dL_jobs_533 : decode cL_jobs 533 = .ok (.goto 4, 3) := by decide +kernel
theorem dL_jobs_536 : decode cL_jobs 536 = .ok (.iconst 0, 1) := by decide +kernel
theorem dL_jobs_537 : decode cL_jobs 537 = .ok (.ireturn, 1) := by decide +kernel
def rm_L_jobs : Room := { frames := 7, cells := 26, slots := 838, locals := 164 }
set_option maxRecDepth 100000 in
set_option maxHeartbeats 4000000 in
theorem ok_L_jobs_81 {E : Ev} {X : Xt} {l0 : Launch} {K : Int32 → Hp → Prop} (hC : Cx E X l0 RL cL_jobs 10 rm_L_jobs) (hQ : CQ E X "jobs" (some .boolean) rm_L_jobs (KI K)) (s0 : Int32) (h : Hp) (hV : V_L_jobs_81 K s0 h) : WW E X h 13 419 81 [none, none, none, none, none, none, none, none, none, none] [.int s0] := by
  unfold V_L_jobs_81 at hV
  exact r_zret hC hQ dL_jobs_81 (Nat.le_of_ble_eq_true rfl) (Nat.le_of_ble_eq_true rfl) hV.1 ⟨_, rfl, hV.2⟩
set_option maxRecDepth 100000 in
set_option maxHeartbeats 4000000 in
theorem ok_L_jobs_154 {E : Ev} {X : Xt} {l0 : Launch} {K : Int32 → Hp → Prop} (hC : Cx E X l0 RL cL_jobs 10 rm_L_jobs) (hQ : CQ E X "jobs" (some .boolean) rm_L_jobs (KI K)) (s0 : Int32) (h : Hp) (hV : V_L_jobs_154 K s0 h) : WW E X h 26 838 154 [none, none, none, none, none, none, none, none, none, none] [.int s0] := by
  unfold V_L_jobs_154 at hV
  exact r_zret hC hQ dL_jobs_154 (Nat.le_of_ble_eq_true rfl) (Nat.le_of_ble_eq_true rfl) hV.1 ⟨_, rfl, hV.2⟩
set_option maxRecDepth 100000 in
set_option maxHeartbeats 4000000 in
theorem ok_L_jobs_149 {E : Ev} {X : Xt} {l0 : Launch} {K : Int32 → Hp → Prop} (hC : Cx E X l0 RL cL_jobs 10 rm_L_jobs) (hQ : CQ E X "jobs" (some .boolean) rm_L_jobs (KI K)) (h : Hp) (hV : V_L_jobs_149 K  h) : WW E X h 26 838 149 [none, none, none, none, none, none, none, none, none, none] [] := by
  unfold V_L_jobs_149 at hV
  refine r_iconst (v := 1) hC dL_jobs_149 (by decide) ?_
  refine r_goto (tgt := 154) hC dL_jobs_150 (by decide) ?_
  exact ok_L_jobs_154 hC hQ 1 h hV
set_option maxRecDepth 100000 in
set_option maxHeartbeats 4000000 in
theorem ok_L_jobs_153 {E : Ev} {X : Xt} {l0 : Launch} {K : Int32 → Hp → Prop} (hC : Cx E X l0 RL cL_jobs 10 rm_L_jobs) (hQ : CQ E X "jobs" (some .boolean) rm_L_jobs (KI K)) (h : Hp) (hV : V_L_jobs_153 K  h) : WW E X h 26 838 153 [none, none, none, none, none, none, none, none, none, none] [] := by
  unfold V_L_jobs_153 at hV
  refine r_iconst (v := 0) hC dL_jobs_153 (by decide) ?_
  exact ok_L_jobs_154 hC hQ 0 h hV
set_option maxRecDepth 100000 in
set_option maxHeartbeats 4000000 in
theorem ok_L_jobs_135 {E : Ev} {X : Xt} {l0 : Launch} {K : Int32 → Hp → Prop} (hC : Cx E X l0 RL cL_jobs 10 rm_L_jobs) (hQ : CQ E X "jobs" (some .boolean) rm_L_jobs (KI K)) (a0 : Nat) (a5 : Int32) (h : Hp) (hV : V_L_jobs_135 K a0 a5 h) : WW E X h 13 419 135 [some (rv a0), none, none, none, none, some (.int a5), none, none, none, none] [] := by
  unfold V_L_jobs_135 at hV
  refine r_aload_n hC dL_jobs_135 rfl ?_
  refine r_iload hC dL_jobs_136 rfl ?_
  refine r_bipush (v := 9) hC dL_jobs_138 (by decide) ?_
  refine r_iconst (v := 0) hC dL_jobs_140 (by decide) ?_
  obtain ⟨k9, hV⟩ := hV
  refine r_callV (ci := 6) (As := [.int a5, .int 9, .int 0]) hC dL_jobs_141 rfl cf_X6_order ml_7_90 im_X6_order sl_X6_order lq_6 rfl rfl k9 rfl ⟨(Nat.le_of_ble_eq_true rfl), (Nat.le_of_ble_eq_true rfl), (Nat.le_of_ble_eq_true rfl), (Nat.le_of_ble_eq_true rfl)⟩ cs0 (Nat.le_of_ble_eq_true rfl) (con_X6_order a0 a5 9 0 h _ hV) rfl (kI (k := 26) (n := 838) (fun r1 h1 hV => ?_))
  refine r_bipush (v := (-2)) hC dL_jobs_144 (by decide) ?_
  refine r_icmp_ne (tgt := 153) hC dL_jobs_146 (by decide) (fun k9 => ?_) (fun k9 => ?_)
  · replace hV := hV.1 k9
    refine r_sub (lo1 := [none, none, none, none, none, none, none, none, none, none]) ⟨Or.inl rfl, ⟨Or.inl rfl, ⟨Or.inl rfl, ⟨Or.inl rfl, ⟨Or.inl rfl, ⟨Or.inl rfl, ⟨Or.inl rfl, ⟨Or.inl rfl, ⟨Or.inl rfl, ⟨Or.inl rfl, trivial⟩⟩⟩⟩⟩⟩⟩⟩⟩⟩ ?_
    exact ok_L_jobs_153 hC hQ  h1 hV
  · replace hV := hV.2 k9
    refine r_sub (lo1 := [none, none, none, none, none, none, none, none, none, none]) ⟨Or.inl rfl, ⟨Or.inl rfl, ⟨Or.inl rfl, ⟨Or.inl rfl, ⟨Or.inl rfl, ⟨Or.inl rfl, ⟨Or.inl rfl, ⟨Or.inl rfl, ⟨Or.inl rfl, ⟨Or.inl rfl, trivial⟩⟩⟩⟩⟩⟩⟩⟩⟩⟩ ?_
    exact ok_L_jobs_149 hC hQ  h1 hV
set_option maxRecDepth 100000 in
set_option maxHeartbeats 4000000 in
theorem ok_L_jobs_18 {E : Ev} {X : Xt} {l0 : Launch} {K : Int32 → Hp → Prop} (hC : Cx E X l0 RL cL_jobs 10 rm_L_jobs) (hQ : CQ E X "jobs" (some .boolean) rm_L_jobs (KI K)) (a0 : Nat) (a2 : Int32) (a3 : Int32) (a4 : Int32) (h : Hp) (hV : V_L_jobs_18 K a0 a2 a3 a4 h) : WW E X h 0 0 18 [some (rv a0), none, some (.int a2), some (.int a3), some (.int a4), none, none, none, none, none] [] := by
  unfold V_L_jobs_18 at hV
  refine r_aload_n hC dL_jobs_18 rfl ?_
  refine r_iload_n hC dL_jobs_19 rfl ?_
  refine r_iload_n hC dL_jobs_20 rfl ?_
  refine r_callS (As := [rv a0, .int a2, .int a3]) hC dL_jobs_21 rfl cf_L_types ml_7_86 st_L_types rfl ⟨(Nat.le_of_ble_eq_true rfl), (Nat.le_of_ble_eq_true rfl), (Nat.le_of_ble_eq_true rfl), (Nat.le_of_ble_eq_true rfl)⟩ cs0 (Nat.le_of_ble_eq_true rfl) (con_L_types a0 a2 a3 h _ hV) rfl (kV (k := 0) (n := 0) (fun h1 hV => ?_))
  refine r_iload_n hC dL_jobs_24 rfl ?_
  refine r_iconst (v := 4) hC dL_jobs_25 (by decide) ?_
  refine r_ishr hC dL_jobs_26 ?_
  refine r_aload_n hC dL_jobs_27 rfl ?_
  refine r_iconst (v := 0) hC dL_jobs_28 (by decide) ?_
  obtain ⟨k9, hV⟩ := hV
  refine r_callV (ci := 6) (As := [.int 0]) hC dL_jobs_29 rfl cf_X6_count ml_7_13 im_X6_count sl_X6_count lq_6 rfl rfl k9 rfl ⟨(Nat.le_of_ble_eq_true rfl), (Nat.le_of_ble_eq_true rfl), (Nat.le_of_ble_eq_true rfl), (Nat.le_of_ble_eq_true rfl)⟩ (csI cs0) (Nat.le_of_ble_eq_true rfl) (con_X6_count a0 0 h1 _ hV) rfl (kI (k := 0) (n := 0) (fun r1 h2 hV => ?_))
  refine r_callS (As := [.int (a2 >>> ((4 : Int32) &&& 31)), .int r1]) hC dL_jobs_32 rfl cf_L_low ml_7_48 st_L_low rfl ⟨(Nat.le_of_ble_eq_true rfl), (Nat.le_of_ble_eq_true rfl), (Nat.le_of_ble_eq_true rfl), (Nat.le_of_ble_eq_true rfl)⟩ cs0 (Nat.le_of_ble_eq_true rfl) (con_L_low (a2 >>> ((4 : Int32) &&& 31)) r1 h2 _ hV) rfl (kI (k := 0) (n := 0) (fun r2 h3 hV => ?_))
  refine r_istore (lo1 := [some (rv a0), none, some (.int a2), some (.int a3), some (.int a4), some (.int r2), none, none, none, none]) hC dL_jobs_35 (Nat.le_of_ble_eq_true rfl) (pvI rfl) rfl ?_
  refine r_aload_n hC dL_jobs_37 rfl ?_
  refine r_iload hC dL_jobs_38 rfl ?_
  refine r_bipush (v := 20) hC dL_jobs_40 (by decide) ?_
  refine r_iload_n hC dL_jobs_42 rfl ?_
  refine r_iconst (v := 3) hC dL_jobs_43 (by decide) ?_
  refine r_ishr hC dL_jobs_44 ?_
  refine r_bipush (v := 90) hC dL_jobs_45 (by decide) ?_
  refine r_callS (As := [.int (a3 >>> ((3 : Int32) &&& 31)), .int 90]) hC dL_jobs_47 rfl cf_L_low ml_7_48 st_L_low rfl ⟨(Nat.le_of_ble_eq_true rfl), (Nat.le_of_ble_eq_true rfl), (Nat.le_of_ble_eq_true rfl), (Nat.le_of_ble_eq_true rfl)⟩ (csI (csI (csR cs0))) (Nat.le_of_ble_eq_true rfl) (con_L_low (a3 >>> ((3 : Int32) &&& 31)) 90 h3 _ hV) rfl (kI (k := 0) (n := 0) (fun r3 h4 hV => ?_))
  refine r_iadd hC dL_jobs_50 ?_
  refine r_iload_n hC dL_jobs_51 rfl ?_
  refine r_bipush (v := 40) hC dL_jobs_52 (by decide) ?_
  refine r_callS (As := [.int a2, .int 40]) hC dL_jobs_54 rfl cf_L_low ml_7_48 st_L_low rfl ⟨(Nat.le_of_ble_eq_true rfl), (Nat.le_of_ble_eq_true rfl), (Nat.le_of_ble_eq_true rfl), (Nat.le_of_ble_eq_true rfl)⟩ (csI (csI (csR cs0))) (Nat.le_of_ble_eq_true rfl) (con_L_low a2 40 h4 _ hV) rfl (kI (k := 0) (n := 0) (fun r4 h5 hV => ?_))
  obtain ⟨k9, hV⟩ := hV
  refine r_callV (ci := 6) (As := [.int r2, .int (20 + r3), .int r4]) hC dL_jobs_57 rfl cf_X6_order ml_7_90 im_X6_order sl_X6_order lq_6 rfl rfl k9 rfl ⟨(Nat.le_of_ble_eq_true rfl), (Nat.le_of_ble_eq_true rfl), (Nat.le_of_ble_eq_true rfl), (Nat.le_of_ble_eq_true rfl)⟩ cs0 (Nat.le_of_ble_eq_true rfl) (con_X6_order a0 r2 (20 + r3) r4 h5 _ hV) rfl (kI (k := 13) (n := 419) (fun r5 h6 hV => ?_))
  refine r_istore (lo1 := [some (rv a0), none, some (.int a2), some (.int a3), some (.int a4), some (.int r2), some (.int r5), none, none, none]) hC dL_jobs_60 (Nat.le_of_ble_eq_true rfl) (pvI rfl) rfl ?_
  refine r_aload_n hC dL_jobs_62 rfl ?_
  refine r_iconst (v := 0) hC dL_jobs_63 (by decide) ?_
  obtain ⟨k9, hV⟩ := hV
  refine r_callV (ci := 6) (As := [.int 0]) hC dL_jobs_64 rfl cf_X6_count ml_7_13 im_X6_count sl_X6_count lq_6 rfl rfl k9 rfl ⟨(Nat.le_of_ble_eq_true rfl), (Nat.le_of_ble_eq_true rfl), (Nat.le_of_ble_eq_true rfl), (Nat.le_of_ble_eq_true rfl)⟩ cs0 (Nat.le_of_ble_eq_true rfl) (con_X6_count a0 0 h6 _ hV) rfl (kI (k := 13) (n := 419) (fun r6 h7 hV => ?_))
  refine r_if_ne (tgt := 82) hC dL_jobs_67 (by decide) (fun k9 => ?_) (fun k9 => ?_)
  · replace hV := hV.1 k9
    refine r_iload hC dL_jobs_82 rfl ?_
    refine r_bipush (v := (-4)) hC dL_jobs_84 (by decide) ?_
    refine r_icmp_eq (tgt := 149) hC dL_jobs_86 (by decide) (fun k9 => ?_) (fun k9 => ?_)
    · replace hV := hV.1 k9
      refine r_wide (k1 := 26) (n1 := 838) (Nat.le_of_ble_eq_true rfl) (Nat.le_of_ble_eq_true rfl) ?_
      refine r_sub (lo1 := [none, none, none, none, none, none, none, none, none, none]) ⟨Or.inl rfl, ⟨Or.inl rfl, ⟨Or.inl rfl, ⟨Or.inl rfl, ⟨Or.inl rfl, ⟨Or.inl rfl, ⟨Or.inl rfl, ⟨Or.inl rfl, ⟨Or.inl rfl, ⟨Or.inl rfl, trivial⟩⟩⟩⟩⟩⟩⟩⟩⟩⟩ ?_
      exact ok_L_jobs_149 hC hQ  h7 hV
    · replace hV := hV.2 k9
      refine r_iload hC dL_jobs_89 rfl ?_
      refine r_bipush (v := 12) hC dL_jobs_91 (by decide) ?_
      refine r_icmp_ne (tgt := 106) hC dL_jobs_93 (by decide) (fun k9 => ?_) (fun k9 => ?_)
      · replace hV := hV.1 k9
        refine r_iload hC dL_jobs_106 rfl ?_
        refine r_iload hC dL_jobs_108 rfl ?_
        refine r_icmp_ne (tgt := 153) hC dL_jobs_110 (by decide) (fun k9 => ?_) (fun k9 => ?_)
        · replace hV := hV.1 k9
          refine r_wide (k1 := 26) (n1 := 838) (Nat.le_of_ble_eq_true rfl) (Nat.le_of_ble_eq_true rfl) ?_
          refine r_sub (lo1 := [none, none, none, none, none, none, none, none, none, none]) ⟨Or.inl rfl, ⟨Or.inl rfl, ⟨Or.inl rfl, ⟨Or.inl rfl, ⟨Or.inl rfl, ⟨Or.inl rfl, ⟨Or.inl rfl, ⟨Or.inl rfl, ⟨Or.inl rfl, ⟨Or.inl rfl, trivial⟩⟩⟩⟩⟩⟩⟩⟩⟩⟩ ?_
          exact ok_L_jobs_153 hC hQ  h7 hV
        · replace hV := hV.2 k9
          refine r_aload_n hC dL_jobs_113 rfl ?_
          refine r_iload hC dL_jobs_114 rfl ?_
          refine r_iconst (v := 0) hC dL_jobs_116 (by decide) ?_
          obtain ⟨k9, hV⟩ := hV
          refine r_callV (ci := 6) (As := [.int a4, .int 0]) hC dL_jobs_117 rfl cf_X6_job ml_7_23 im_X6_job sl_X6_job lq_6 rfl rfl k9 rfl ⟨(Nat.le_of_ble_eq_true rfl), (Nat.le_of_ble_eq_true rfl), (Nat.le_of_ble_eq_true rfl), (Nat.le_of_ble_eq_true rfl)⟩ cs0 (Nat.le_of_ble_eq_true rfl) (con_X6_job a0 a4 0 h7 _ hV) rfl (kI (k := 13) (n := 419) (fun r7 h8 hV => ?_))
          refine r_iload hC dL_jobs_120 rfl ?_
          refine r_icmp_ne (tgt := 153) hC dL_jobs_122 (by decide) (fun k9 => ?_) (fun k9 => ?_)
          · replace hV := hV.1 k9
            refine r_wide (k1 := 26) (n1 := 838) (Nat.le_of_ble_eq_true rfl) (Nat.le_of_ble_eq_true rfl) ?_
            refine r_sub (lo1 := [none, none, none, none, none, none, none, none, none, none]) ⟨Or.inl rfl, ⟨Or.inl rfl, ⟨Or.inl rfl, ⟨Or.inl rfl, ⟨Or.inl rfl, ⟨Or.inl rfl, ⟨Or.inl rfl, ⟨Or.inl rfl, ⟨Or.inl rfl, ⟨Or.inl rfl, trivial⟩⟩⟩⟩⟩⟩⟩⟩⟩⟩ ?_
            exact ok_L_jobs_153 hC hQ  h8 hV
          · replace hV := hV.2 k9
            refine r_aload_n hC dL_jobs_125 rfl ?_
            refine r_iload hC dL_jobs_126 rfl ?_
            refine r_iconst (v := 3) hC dL_jobs_128 (by decide) ?_
            obtain ⟨k9, hV⟩ := hV
            refine r_callV (ci := 6) (As := [.int a4, .int 3]) hC dL_jobs_129 rfl cf_X6_job ml_7_23 im_X6_job sl_X6_job lq_6 rfl rfl k9 rfl ⟨(Nat.le_of_ble_eq_true rfl), (Nat.le_of_ble_eq_true rfl), (Nat.le_of_ble_eq_true rfl), (Nat.le_of_ble_eq_true rfl)⟩ cs0 (Nat.le_of_ble_eq_true rfl) (con_X6_job a0 a4 3 h8 _ hV) rfl (kI (k := 13) (n := 419) (fun r8 h9 hV => ?_))
            refine r_if_ne (tgt := 153) hC dL_jobs_132 (by decide) (fun k9 => ?_) (fun k9 => ?_)
            · replace hV := hV.1 k9
              refine r_wide (k1 := 26) (n1 := 838) (Nat.le_of_ble_eq_true rfl) (Nat.le_of_ble_eq_true rfl) ?_
              refine r_sub (lo1 := [none, none, none, none, none, none, none, none, none, none]) ⟨Or.inl rfl, ⟨Or.inl rfl, ⟨Or.inl rfl, ⟨Or.inl rfl, ⟨Or.inl rfl, ⟨Or.inl rfl, ⟨Or.inl rfl, ⟨Or.inl rfl, ⟨Or.inl rfl, ⟨Or.inl rfl, trivial⟩⟩⟩⟩⟩⟩⟩⟩⟩⟩ ?_
              exact ok_L_jobs_153 hC hQ  h9 hV
            · replace hV := hV.2 k9
              refine r_sub (lo1 := [some (rv a0), none, none, none, none, some (.int r2), none, none, none, none]) ⟨Or.inr rfl, ⟨Or.inl rfl, ⟨Or.inl rfl, ⟨Or.inl rfl, ⟨Or.inl rfl, ⟨Or.inr rfl, ⟨Or.inl rfl, ⟨Or.inl rfl, ⟨Or.inl rfl, ⟨Or.inl rfl, trivial⟩⟩⟩⟩⟩⟩⟩⟩⟩⟩ ?_
              exact ok_L_jobs_135 hC hQ a0 r2 h9 hV
      · replace hV := hV.2 k9
        refine r_iload hC dL_jobs_96 rfl ?_
        refine r_bipush (v := (-3)) hC dL_jobs_98 (by decide) ?_
        refine r_icmp_ne (tgt := 153) hC dL_jobs_100 (by decide) (fun k9 => ?_) (fun k9 => ?_)
        · replace hV := hV.1 k9
          refine r_wide (k1 := 26) (n1 := 838) (Nat.le_of_ble_eq_true rfl) (Nat.le_of_ble_eq_true rfl) ?_
          refine r_sub (lo1 := [none, none, none, none, none, none, none, none, none, none]) ⟨Or.inl rfl, ⟨Or.inl rfl, ⟨Or.inl rfl, ⟨Or.inl rfl, ⟨Or.inl rfl, ⟨Or.inl rfl, ⟨Or.inl rfl, ⟨Or.inl rfl, ⟨Or.inl rfl, ⟨Or.inl rfl, trivial⟩⟩⟩⟩⟩⟩⟩⟩⟩⟩ ?_
          exact ok_L_jobs_153 hC hQ  h7 hV
        · replace hV := hV.2 k9
          refine r_goto (tgt := 135) hC dL_jobs_103 (by decide) ?_
          refine r_sub (lo1 := [some (rv a0), none, none, none, none, some (.int r2), none, none, none, none]) ⟨Or.inr rfl, ⟨Or.inl rfl, ⟨Or.inl rfl, ⟨Or.inl rfl, ⟨Or.inl rfl, ⟨Or.inr rfl, ⟨Or.inl rfl, ⟨Or.inl rfl, ⟨Or.inl rfl, ⟨Or.inl rfl, trivial⟩⟩⟩⟩⟩⟩⟩⟩⟩⟩ ?_
          exact ok_L_jobs_135 hC hQ a0 r2 h7 hV
  · replace hV := hV.2 k9
    refine r_iload hC dL_jobs_70 rfl ?_
    refine r_iconst (v := (-1)) hC dL_jobs_72 (by decide) ?_
    refine r_icmp_ne (tgt := 80) hC dL_jobs_73 (by decide) (fun k9 => ?_) (fun k9 => ?_)
    · replace hV := hV.1 k9
      refine r_iconst (v := 0) hC dL_jobs_80 (by decide) ?_
      refine r_sub (lo1 := [none, none, none, none, none, none, none, none, none, none]) ⟨Or.inl rfl, ⟨Or.inl rfl, ⟨Or.inl rfl, ⟨Or.inl rfl, ⟨Or.inl rfl, ⟨Or.inl rfl, ⟨Or.inl rfl, ⟨Or.inl rfl, ⟨Or.inl rfl, ⟨Or.inl rfl, trivial⟩⟩⟩⟩⟩⟩⟩⟩⟩⟩ ?_
      exact ok_L_jobs_81 hC hQ 0 h7 hV
    · replace hV := hV.2 k9
      refine r_iconst (v := 1) hC dL_jobs_76 (by decide) ?_
      refine r_goto (tgt := 81) hC dL_jobs_77 (by decide) ?_
      refine r_sub (lo1 := [none, none, none, none, none, none, none, none, none, none]) ⟨Or.inl rfl, ⟨Or.inl rfl, ⟨Or.inl rfl, ⟨Or.inl rfl, ⟨Or.inl rfl, ⟨Or.inl rfl, ⟨Or.inl rfl, ⟨Or.inl rfl, ⟨Or.inl rfl, ⟨Or.inl rfl, trivial⟩⟩⟩⟩⟩⟩⟩⟩⟩⟩ ?_
      exact ok_L_jobs_81 hC hQ 1 h7 hV
set_option maxRecDepth 100000 in
set_option maxHeartbeats 4000000 in
theorem ok_L_jobs_248 {E : Ev} {X : Xt} {l0 : Launch} {K : Int32 → Hp → Prop} (hC : Cx E X l0 RL cL_jobs 10 rm_L_jobs) (hQ : CQ E X "jobs" (some .boolean) rm_L_jobs (KI K)) (s0 : Int32) (h : Hp) (hV : V_L_jobs_248 K s0 h) : WW E X h 4 226 248 [none, none, none, none, none, none, none, none, none, none] [.int s0] := by
  unfold V_L_jobs_248 at hV
  exact r_zret hC hQ dL_jobs_248 (Nat.le_of_ble_eq_true rfl) (Nat.le_of_ble_eq_true rfl) hV.1 ⟨_, rfl, hV.2⟩
set_option maxRecDepth 100000 in
set_option maxHeartbeats 4000000 in
theorem ok_L_jobs_247 {E : Ev} {X : Xt} {l0 : Launch} {K : Int32 → Hp → Prop} (hC : Cx E X l0 RL cL_jobs 10 rm_L_jobs) (hQ : CQ E X "jobs" (some .boolean) rm_L_jobs (KI K)) (h : Hp) (hV : V_L_jobs_247 K  h) : WW E X h 4 226 247 [none, none, none, none, none, none, none, none, none, none] [] := by
  unfold V_L_jobs_247 at hV
  refine r_iconst (v := 0) hC dL_jobs_247 (by decide) ?_
  exact ok_L_jobs_248 hC hQ 0 h hV
set_option maxRecDepth 100000 in
set_option maxHeartbeats 4000000 in
theorem ok_L_jobs_209 {E : Ev} {X : Xt} {l0 : Launch} {K : Int32 → Hp → Prop} (hC : Cx E X l0 RL cL_jobs 10 rm_L_jobs) (hQ : CQ E X "jobs" (some .boolean) rm_L_jobs (KI K)) (a6 : Int32) (a7 : Int32) (h : Hp) (hV : V_L_jobs_209 K a6 a7 h) : WW E X h 4 226 209 [none, none, none, none, none, none, some (.int a6), some (.int a7), none, none] [] := by
  unfold V_L_jobs_209 at hV
  refine r_iload hC dL_jobs_209 rfl ?_
  refine r_if_eq (tgt := 229) hC dL_jobs_211 (by decide) (fun k9 => ?_) (fun k9 => ?_)
  · replace hV := hV.1 k9
    refine r_iload hC dL_jobs_229 rfl ?_
    refine r_bipush (v := (-6)) hC dL_jobs_231 (by decide) ?_
    refine r_icmp_le (tgt := 247) hC dL_jobs_233 (by decide) (fun k9 => ?_) (fun k9 => ?_)
    · replace hV := hV.1 k9
      refine r_sub (lo1 := [none, none, none, none, none, none, none, none, none, none]) ⟨Or.inl rfl, ⟨Or.inl rfl, ⟨Or.inl rfl, ⟨Or.inl rfl, ⟨Or.inl rfl, ⟨Or.inl rfl, ⟨Or.inl rfl, ⟨Or.inl rfl, ⟨Or.inl rfl, ⟨Or.inl rfl, trivial⟩⟩⟩⟩⟩⟩⟩⟩⟩⟩ ?_
      exact ok_L_jobs_247 hC hQ  h hV
    · replace hV := hV.2 k9
      refine r_iload hC dL_jobs_236 rfl ?_
      refine r_bipush (v := (-2)) hC dL_jobs_238 (by decide) ?_
      refine r_icmp_ge (tgt := 247) hC dL_jobs_240 (by decide) (fun k9 => ?_) (fun k9 => ?_)
      · replace hV := hV.1 k9
        refine r_sub (lo1 := [none, none, none, none, none, none, none, none, none, none]) ⟨Or.inl rfl, ⟨Or.inl rfl, ⟨Or.inl rfl, ⟨Or.inl rfl, ⟨Or.inl rfl, ⟨Or.inl rfl, ⟨Or.inl rfl, ⟨Or.inl rfl, ⟨Or.inl rfl, ⟨Or.inl rfl, trivial⟩⟩⟩⟩⟩⟩⟩⟩⟩⟩ ?_
        exact ok_L_jobs_247 hC hQ  h hV
      · replace hV := hV.2 k9
        refine r_iconst (v := 1) hC dL_jobs_243 (by decide) ?_
        refine r_goto (tgt := 248) hC dL_jobs_244 (by decide) ?_
        refine r_sub (lo1 := [none, none, none, none, none, none, none, none, none, none]) ⟨Or.inl rfl, ⟨Or.inl rfl, ⟨Or.inl rfl, ⟨Or.inl rfl, ⟨Or.inl rfl, ⟨Or.inl rfl, ⟨Or.inl rfl, ⟨Or.inl rfl, ⟨Or.inl rfl, ⟨Or.inl rfl, trivial⟩⟩⟩⟩⟩⟩⟩⟩⟩⟩ ?_
        exact ok_L_jobs_248 hC hQ 1 h hV
  · replace hV := hV.2 k9
    refine r_iload hC dL_jobs_214 rfl ?_
    refine r_bipush (v := (-4)) hC dL_jobs_216 (by decide) ?_
    refine r_icmp_ne (tgt := 225) hC dL_jobs_218 (by decide) (fun k9 => ?_) (fun k9 => ?_)
    · replace hV := hV.1 k9
      refine r_iconst (v := 0) hC dL_jobs_225 (by decide) ?_
      refine r_goto (tgt := 248) hC dL_jobs_226 (by decide) ?_
      refine r_sub (lo1 := [none, none, none, none, none, none, none, none, none, none]) ⟨Or.inl rfl, ⟨Or.inl rfl, ⟨Or.inl rfl, ⟨Or.inl rfl, ⟨Or.inl rfl, ⟨Or.inl rfl, ⟨Or.inl rfl, ⟨Or.inl rfl, ⟨Or.inl rfl, ⟨Or.inl rfl, trivial⟩⟩⟩⟩⟩⟩⟩⟩⟩⟩ ?_
      exact ok_L_jobs_248 hC hQ 0 h hV
    · replace hV := hV.2 k9
      refine r_iconst (v := 1) hC dL_jobs_221 (by decide) ?_
      refine r_goto (tgt := 248) hC dL_jobs_222 (by decide) ?_
      refine r_sub (lo1 := [none, none, none, none, none, none, none, none, none, none]) ⟨Or.inl rfl, ⟨Or.inl rfl, ⟨Or.inl rfl, ⟨Or.inl rfl, ⟨Or.inl rfl, ⟨Or.inl rfl, ⟨Or.inl rfl, ⟨Or.inl rfl, ⟨Or.inl rfl, ⟨Or.inl rfl, trivial⟩⟩⟩⟩⟩⟩⟩⟩⟩⟩ ?_
      exact ok_L_jobs_248 hC hQ 1 h hV
set_option maxRecDepth 100000 in
set_option maxHeartbeats 4000000 in
theorem ok_L_jobs_279 {E : Ev} {X : Xt} {l0 : Launch} {K : Int32 → Hp → Prop} (hC : Cx E X l0 RL cL_jobs 10 rm_L_jobs) (hQ : CQ E X "jobs" (some .boolean) rm_L_jobs (KI K)) (s0 : Int32) (h : Hp) (hV : V_L_jobs_279 K s0 h) : WW E X h 11 659 279 [none, none, none, none, none, none, none, none, none, none] [.int s0] := by
  unfold V_L_jobs_279 at hV
  exact r_zret hC hQ dL_jobs_279 (Nat.le_of_ble_eq_true rfl) (Nat.le_of_ble_eq_true rfl) hV.1 ⟨_, rfl, hV.2⟩
set_option maxRecDepth 100000 in
set_option maxHeartbeats 4000000 in
theorem ok_L_jobs_278 {E : Ev} {X : Xt} {l0 : Launch} {K : Int32 → Hp → Prop} (hC : Cx E X l0 RL cL_jobs 10 rm_L_jobs) (hQ : CQ E X "jobs" (some .boolean) rm_L_jobs (KI K)) (h : Hp) (hV : V_L_jobs_278 K  h) : WW E X h 11 659 278 [none, none, none, none, none, none, none, none, none, none] [] := by
  unfold V_L_jobs_278 at hV
  refine r_iconst (v := 0) hC dL_jobs_278 (by decide) ?_
  exact ok_L_jobs_279 hC hQ 0 h hV
set_option maxRecDepth 100000 in
set_option maxHeartbeats 4000000 in
theorem ok_L_jobs_361 {E : Ev} {X : Xt} {l0 : Launch} {K : Int32 → Hp → Prop} (hC : Cx E X l0 RL cL_jobs 10 rm_L_jobs) (hQ : CQ E X "jobs" (some .boolean) rm_L_jobs (KI K)) (s0 : Int32) (h : Hp) (hV : V_L_jobs_361 K s0 h) : WW E X h 5 230 361 [none, none, none, none, none, none, none, none, none, none] [.int s0] := by
  unfold V_L_jobs_361 at hV
  exact r_zret hC hQ dL_jobs_361 (Nat.le_of_ble_eq_true rfl) (Nat.le_of_ble_eq_true rfl) hV.1 ⟨_, rfl, hV.2⟩
set_option maxRecDepth 100000 in
set_option maxHeartbeats 4000000 in
theorem ok_L_jobs_356 {E : Ev} {X : Xt} {l0 : Launch} {K : Int32 → Hp → Prop} (hC : Cx E X l0 RL cL_jobs 10 rm_L_jobs) (hQ : CQ E X "jobs" (some .boolean) rm_L_jobs (KI K)) (h : Hp) (hV : V_L_jobs_356 K  h) : WW E X h 5 230 356 [none, none, none, none, none, none, none, none, none, none] [] := by
  unfold V_L_jobs_356 at hV
  refine r_iconst (v := 1) hC dL_jobs_356 (by decide) ?_
  refine r_goto (tgt := 361) hC dL_jobs_357 (by decide) ?_
  exact ok_L_jobs_361 hC hQ 1 h hV
set_option maxRecDepth 100000 in
set_option maxHeartbeats 4000000 in
theorem ok_L_jobs_360 {E : Ev} {X : Xt} {l0 : Launch} {K : Int32 → Hp → Prop} (hC : Cx E X l0 RL cL_jobs 10 rm_L_jobs) (hQ : CQ E X "jobs" (some .boolean) rm_L_jobs (KI K)) (h : Hp) (hV : V_L_jobs_360 K  h) : WW E X h 5 230 360 [none, none, none, none, none, none, none, none, none, none] [] := by
  unfold V_L_jobs_360 at hV
  refine r_iconst (v := 0) hC dL_jobs_360 (by decide) ?_
  exact ok_L_jobs_361 hC hQ 0 h hV
set_option maxRecDepth 100000 in
set_option maxHeartbeats 4000000 in
theorem ok_L_jobs_330 {E : Ev} {X : Xt} {l0 : Launch} {K : Int32 → Hp → Prop} (hC : Cx E X l0 RL cL_jobs 10 rm_L_jobs) (hQ : CQ E X "jobs" (some .boolean) rm_L_jobs (KI K)) (a0 : Nat) (a5 : Int32) (a6 : Int32) (s0 : Int32) (s1 : Int32) (h : Hp) (hV : V_L_jobs_330 K a0 a5 a6 s0 s1 h) : WW E X h 5 230 330 [some (rv a0), none, none, none, none, some (.int a5), some (.int a6), none, none, none] [.int s1, .int s0] := by
  unfold V_L_jobs_330 at hV
  refine r_icmp_ne (tgt := 360) hC dL_jobs_330 (by decide) (fun k9 => ?_) (fun k9 => ?_)
  · replace hV := hV.1 k9
    refine r_sub (lo1 := [none, none, none, none, none, none, none, none, none, none]) ⟨Or.inl rfl, ⟨Or.inl rfl, ⟨Or.inl rfl, ⟨Or.inl rfl, ⟨Or.inl rfl, ⟨Or.inl rfl, ⟨Or.inl rfl, ⟨Or.inl rfl, ⟨Or.inl rfl, ⟨Or.inl rfl, trivial⟩⟩⟩⟩⟩⟩⟩⟩⟩⟩ ?_
    exact ok_L_jobs_360 hC hQ  h hV
  · replace hV := hV.2 k9
    refine r_iload hC dL_jobs_333 rfl ?_
    refine r_iconst (v := 1) hC dL_jobs_335 (by decide) ?_
    refine r_icmp_ne (tgt := 356) hC dL_jobs_336 (by decide) (fun k9 => ?_) (fun k9 => ?_)
    · replace hV := hV.1 k9
      refine r_sub (lo1 := [none, none, none, none, none, none, none, none, none, none]) ⟨Or.inl rfl, ⟨Or.inl rfl, ⟨Or.inl rfl, ⟨Or.inl rfl, ⟨Or.inl rfl, ⟨Or.inl rfl, ⟨Or.inl rfl, ⟨Or.inl rfl, ⟨Or.inl rfl, ⟨Or.inl rfl, trivial⟩⟩⟩⟩⟩⟩⟩⟩⟩⟩ ?_
      exact ok_L_jobs_356 hC hQ  h hV
    · replace hV := hV.2 k9
      refine r_aload_n hC dL_jobs_339 rfl ?_
      refine r_iload hC dL_jobs_340 rfl ?_
      refine r_bipush (v := 9) hC dL_jobs_342 (by decide) ?_
      obtain ⟨k9, hV⟩ := hV
      refine r_callV (ci := 6) (As := [.int a5, .int 9]) hC dL_jobs_344 rfl cf_X6_job ml_7_23 im_X6_job sl_X6_job lq_6 rfl rfl k9 rfl ⟨(Nat.le_of_ble_eq_true rfl), (Nat.le_of_ble_eq_true rfl), (Nat.le_of_ble_eq_true rfl), (Nat.le_of_ble_eq_true rfl)⟩ cs0 (Nat.le_of_ble_eq_true rfl) (con_X6_job a0 a5 9 h _ hV) rfl (kI (k := 5) (n := 230) (fun r1 h1 hV => ?_))
      refine r_aload_n hC dL_jobs_347 rfl ?_
      refine r_bipush (v := 11) hC dL_jobs_348 (by decide) ?_
      obtain ⟨k9, hV⟩ := hV
      refine r_callV (ci := 6) (As := [.int 11]) hC dL_jobs_350 rfl cf_X6_count ml_7_13 im_X6_count sl_X6_count lq_6 rfl rfl k9 rfl ⟨(Nat.le_of_ble_eq_true rfl), (Nat.le_of_ble_eq_true rfl), (Nat.le_of_ble_eq_true rfl), (Nat.le_of_ble_eq_true rfl)⟩ (csI cs0) (Nat.le_of_ble_eq_true rfl) (con_X6_count a0 11 h1 _ hV) rfl (kI (k := 5) (n := 230) (fun r2 h2 hV => ?_))
      refine r_icmp_ne (tgt := 360) hC dL_jobs_353 (by decide) (fun k9 => ?_) (fun k9 => ?_)
      · replace hV := hV.1 k9
        refine r_sub (lo1 := [none, none, none, none, none, none, none, none, none, none]) ⟨Or.inl rfl, ⟨Or.inl rfl, ⟨Or.inl rfl, ⟨Or.inl rfl, ⟨Or.inl rfl, ⟨Or.inl rfl, ⟨Or.inl rfl, ⟨Or.inl rfl, ⟨Or.inl rfl, ⟨Or.inl rfl, trivial⟩⟩⟩⟩⟩⟩⟩⟩⟩⟩ ?_
        exact ok_L_jobs_360 hC hQ  h2 hV
      · replace hV := hV.2 k9
        refine r_sub (lo1 := [none, none, none, none, none, none, none, none, none, none]) ⟨Or.inl rfl, ⟨Or.inl rfl, ⟨Or.inl rfl, ⟨Or.inl rfl, ⟨Or.inl rfl, ⟨Or.inl rfl, ⟨Or.inl rfl, ⟨Or.inl rfl, ⟨Or.inl rfl, ⟨Or.inl rfl, trivial⟩⟩⟩⟩⟩⟩⟩⟩⟩⟩ ?_
        exact ok_L_jobs_356 hC hQ  h2 hV
set_option maxRecDepth 100000 in
set_option maxHeartbeats 4000000 in
theorem ok_L_jobs_463 {E : Ev} {X : Xt} {l0 : Launch} {K : Int32 → Hp → Prop} (hC : Cx E X l0 RL cL_jobs 10 rm_L_jobs) (hQ : CQ E X "jobs" (some .boolean) rm_L_jobs (KI K)) (s0 : Int32) (h : Hp) (hV : V_L_jobs_463 K s0 h) : WW E X h 6 230 463 [none, none, none, none, none, none, none, none, none, none] [.int s0] := by
  unfold V_L_jobs_463 at hV
  exact r_zret hC hQ dL_jobs_463 (Nat.le_of_ble_eq_true rfl) (Nat.le_of_ble_eq_true rfl) hV.1 ⟨_, rfl, hV.2⟩
set_option maxRecDepth 100000 in
set_option maxHeartbeats 4000000 in
theorem ok_L_jobs_462 {E : Ev} {X : Xt} {l0 : Launch} {K : Int32 → Hp → Prop} (hC : Cx E X l0 RL cL_jobs 10 rm_L_jobs) (hQ : CQ E X "jobs" (some .boolean) rm_L_jobs (KI K)) (h : Hp) (hV : V_L_jobs_462 K  h) : WW E X h 6 230 462 [none, none, none, none, none, none, none, none, none, none] [] := by
  unfold V_L_jobs_462 at hV
  refine r_iconst (v := 0) hC dL_jobs_462 (by decide) ?_
  exact ok_L_jobs_463 hC hQ 0 h hV
set_option maxRecDepth 100000 in
set_option maxHeartbeats 4000000 in
theorem ok_L_jobs_537 {E : Ev} {X : Xt} {l0 : Launch} {K : Int32 → Hp → Prop} (hC : Cx E X l0 RL cL_jobs 10 rm_L_jobs) (hQ : CQ E X "jobs" (some .boolean) rm_L_jobs (KI K)) (s0 : Int32) (h : Hp) (hV : V_L_jobs_537 K s0 h) : WW E X h 6 230 537 [none, none, none, none, none, none, none, none, none, none] [.int s0] := by
  unfold V_L_jobs_537 at hV
  exact r_zret hC hQ dL_jobs_537 (Nat.le_of_ble_eq_true rfl) (Nat.le_of_ble_eq_true rfl) hV.1 ⟨_, rfl, hV.2⟩
set_option maxRecDepth 100000 in
set_option maxHeartbeats 4000000 in
theorem ok_L_jobs_536 {E : Ev} {X : Xt} {l0 : Launch} {K : Int32 → Hp → Prop} (hC : Cx E X l0 RL cL_jobs 10 rm_L_jobs) (hQ : CQ E X "jobs" (some .boolean) rm_L_jobs (KI K)) (h : Hp) (hV : V_L_jobs_536 K  h) : WW E X h 6 230 536 [none, none, none, none, none, none, none, none, none, none] [] := by
  unfold V_L_jobs_536 at hV
  refine r_iconst (v := 0) hC dL_jobs_536 (by decide) ?_
  exact ok_L_jobs_537 hC hQ 0 h hV
set_option maxRecDepth 100000 in
set_option maxHeartbeats 4000000 in
theorem ok_L_jobs_0 {E : Ev} {X : Xt} {l0 : Launch} {K : Int32 → Hp → Prop} (hC : Cx E X l0 RL cL_jobs 10 rm_L_jobs) (hQ : CQ E X "jobs" (some .boolean) rm_L_jobs (KI K)) (a0 : Nat) (a1 : Int32) (a2 : Int32) (a3 : Int32) (h : Hp) (hV : V_L_jobs a0 a1 a2 a3 h K) : WW E X h 0 0 0 [some (rv a0), some (.int a1), some (.int a2), some (.int a3), none, none, none, none, none, none] [] := by
  unfold V_L_jobs at hV
  refine r_aload_n hC dL_jobs_0 rfl ?_
  refine r_iconst (v := 1) hC dL_jobs_1 (by decide) ?_
  obtain ⟨k9, hV⟩ := hV
  refine r_callV (ci := 6) (As := [.int 1]) hC dL_jobs_2 rfl cf_X6_count ml_7_13 im_X6_count sl_X6_count lq_6 rfl rfl k9 rfl ⟨(Nat.le_of_ble_eq_true rfl), (Nat.le_of_ble_eq_true rfl), (Nat.le_of_ble_eq_true rfl), (Nat.le_of_ble_eq_true rfl)⟩ cs0 (Nat.le_of_ble_eq_true rfl) (con_X6_count a0 1 h _ hV) rfl (kI (k := 0) (n := 0) (fun r1 h1 hV => ?_))
  refine r_istore (lo1 := [some (rv a0), some (.int a1), some (.int a2), some (.int a3), some (.int r1), none, none, none, none, none]) hC dL_jobs_5 (Nat.le_of_ble_eq_true rfl) (pvI rfl) rfl ?_
  refine r_iload hC dL_jobs_7 rfl ?_
  refine r_if_eq (tgt := 18) hC dL_jobs_9 (by decide) (fun k9 => ?_) (fun k9 => ?_)
  · replace hV := hV.1 k9
    refine r_sub (lo1 := [some (rv a0), none, some (.int a2), some (.int a3), some (.int r1), none, none, none, none, none]) ⟨Or.inr rfl, ⟨Or.inl rfl, ⟨Or.inr rfl, ⟨Or.inr rfl, ⟨Or.inr rfl, ⟨Or.inl rfl, ⟨Or.inl rfl, ⟨Or.inl rfl, ⟨Or.inl rfl, ⟨Or.inl rfl, trivial⟩⟩⟩⟩⟩⟩⟩⟩⟩⟩ ?_
    exact ok_L_jobs_18 hC hQ a0 a2 a3 r1 h1 hV
  · replace hV := hV.2 k9
    refine r_iload_n hC dL_jobs_12 rfl ?_
    refine r_bipush (v := 10) hC dL_jobs_13 (by decide) ?_
    refine r_icmp_ge (tgt := 155) hC dL_jobs_15 (by decide) (fun k9 => ?_) (fun k9 => ?_)
    · replace hV := hV.1 k9
      refine r_iload_n hC dL_jobs_155 rfl ?_
      refine r_iload hC dL_jobs_156 rfl ?_
      refine r_callS (As := [.int a3, .int r1]) hC dL_jobs_158 rfl cf_L_low ml_7_48 st_L_low rfl ⟨(Nat.le_of_ble_eq_true rfl), (Nat.le_of_ble_eq_true rfl), (Nat.le_of_ble_eq_true rfl), (Nat.le_of_ble_eq_true rfl)⟩ cs0 (Nat.le_of_ble_eq_true rfl) (con_L_low a3 r1 h1 _ hV) rfl (kI (k := 0) (n := 0) (fun r2 h2 hV => ?_))
      refine r_istore (lo1 := [some (rv a0), some (.int a1), some (.int a2), some (.int a3), some (.int r1), some (.int r2), none, none, none, none]) hC dL_jobs_161 (Nat.le_of_ble_eq_true rfl) (pvI rfl) rfl ?_
      refine r_aload_n hC dL_jobs_163 rfl ?_
      refine r_iload hC dL_jobs_164 rfl ?_
      refine r_iconst (v := 3) hC dL_jobs_166 (by decide) ?_
      obtain ⟨k9, hV⟩ := hV
      refine r_callV (ci := 6) (As := [.int r2, .int 3]) hC dL_jobs_167 rfl cf_X6_job ml_7_23 im_X6_job sl_X6_job lq_6 rfl rfl k9 rfl ⟨(Nat.le_of_ble_eq_true rfl), (Nat.le_of_ble_eq_true rfl), (Nat.le_of_ble_eq_true rfl), (Nat.le_of_ble_eq_true rfl)⟩ cs0 (Nat.le_of_ble_eq_true rfl) (con_X6_job a0 r2 3 h2 _ hV) rfl (kI (k := 0) (n := 0) (fun r3 h3 hV => ?_))
      refine r_istore (lo1 := [some (rv a0), some (.int a1), some (.int a2), some (.int a3), some (.int r1), some (.int r2), some (.int r3), none, none, none]) hC dL_jobs_170 (Nat.le_of_ble_eq_true rfl) (pvI rfl) rfl ?_
      refine r_iload_n hC dL_jobs_172 rfl ?_
      refine r_bipush (v := 12) hC dL_jobs_173 (by decide) ?_
      refine r_icmp_ge (tgt := 185) hC dL_jobs_175 (by decide) (fun k9 => ?_) (fun k9 => ?_)
      · replace hV := hV.1 k9
        refine r_iload_n hC dL_jobs_185 rfl ?_
        refine r_bipush (v := 12) hC dL_jobs_186 (by decide) ?_
        refine r_icmp_ne (tgt := 280) hC dL_jobs_188 (by decide) (fun k9 => ?_) (fun k9 => ?_)
        · replace hV := hV.1 k9
          refine r_iload_n hC dL_jobs_280 rfl ?_
          refine r_bipush (v := 13) hC dL_jobs_281 (by decide) ?_
          refine r_icmp_ne (tgt := 362) hC dL_jobs_283 (by decide) (fun k9 => ?_) (fun k9 => ?_)
          · replace hV := hV.1 k9
            refine r_aload_n hC dL_jobs_362 rfl ?_
            refine r_iload hC dL_jobs_363 rfl ?_
            refine r_bipush (v := 7) hC dL_jobs_365 (by decide) ?_
            obtain ⟨k9, hV⟩ := hV
            refine r_callV (ci := 6) (As := [.int r2, .int 7]) hC dL_jobs_367 rfl cf_X6_job ml_7_23 im_X6_job sl_X6_job lq_6 rfl rfl k9 rfl ⟨(Nat.le_of_ble_eq_true rfl), (Nat.le_of_ble_eq_true rfl), (Nat.le_of_ble_eq_true rfl), (Nat.le_of_ble_eq_true rfl)⟩ cs0 (Nat.le_of_ble_eq_true rfl) (con_X6_job a0 r2 7 h3 _ hV) rfl (kI (k := 0) (n := 0) (fun r4 h4 hV => ?_))
            refine r_istore (lo1 := [some (rv a0), some (.int a1), some (.int a2), some (.int a3), some (.int r1), some (.int r2), some (.int r3), some (.int r4), none, none]) hC dL_jobs_370 (Nat.le_of_ble_eq_true rfl) (pvI rfl) rfl ?_
            refine r_aload_n hC dL_jobs_372 rfl ?_
            refine r_bipush (v := 10) hC dL_jobs_373 (by decide) ?_
            obtain ⟨k9, hV⟩ := hV
            refine r_callV (ci := 6) (As := [.int 10]) hC dL_jobs_375 rfl cf_X6_count ml_7_13 im_X6_count sl_X6_count lq_6 rfl rfl k9 rfl ⟨(Nat.le_of_ble_eq_true rfl), (Nat.le_of_ble_eq_true rfl), (Nat.le_of_ble_eq_true rfl), (Nat.le_of_ble_eq_true rfl)⟩ cs0 (Nat.le_of_ble_eq_true rfl) (con_X6_count a0 10 h4 _ hV) rfl (kI (k := 0) (n := 0) (fun r5 h5 hV => ?_))
            refine r_istore (lo1 := [some (rv a0), some (.int a1), some (.int a2), some (.int a3), some (.int r1), some (.int r2), some (.int r3), some (.int r4), some (.int r5), none]) hC dL_jobs_378 (Nat.le_of_ble_eq_true rfl) (pvI rfl) rfl ?_
            refine r_iload_n hC dL_jobs_380 rfl ?_
            refine r_bipush (v := 14) hC dL_jobs_381 (by decide) ?_
            refine r_icmp_ne (tgt := 464) hC dL_jobs_383 (by decide) (fun k9 => ?_) (fun k9 => ?_)
            · replace hV := hV.1 k9
              refine r_aload_n hC dL_jobs_464 rfl ?_
              refine r_iload hC dL_jobs_465 rfl ?_
              obtain ⟨k9, hV⟩ := hV
              refine r_callV (ci := 6) (As := [.int r2]) hC dL_jobs_467 rfl cf_X6_cancel ml_7_106 im_X6_cancel sl_X6_cancel lq_6 rfl rfl k9 rfl ⟨(Nat.le_of_ble_eq_true rfl), (Nat.le_of_ble_eq_true rfl), (Nat.le_of_ble_eq_true rfl), (Nat.le_of_ble_eq_true rfl)⟩ cs0 (Nat.le_of_ble_eq_true rfl) (con_X6_cancel a0 r2 h5 _ hV) rfl (kI (k := 6) (n := 230) (fun r6 h6 hV => ?_))
              refine r_istore (lo1 := [some (rv a0), some (.int a1), some (.int a2), some (.int a3), some (.int r1), some (.int r2), some (.int r3), some (.int r4), some (.int r5), some (.int r6)]) hC dL_jobs_470 (Nat.le_of_ble_eq_true rfl) (pvI rfl) rfl ?_
              refine r_iload hC dL_jobs_472 rfl ?_
              refine r_iconst (v := 1) hC dL_jobs_474 (by decide) ?_
              refine r_icmp_le (tgt := 493) hC dL_jobs_475 (by decide) (fun k9 => ?_) (fun k9 => ?_)
              · replace hV := hV.1 k9
                refine r_iload hC dL_jobs_493 rfl ?_
                refine r_iload hC dL_jobs_495 rfl ?_
                refine r_aload_n hC dL_jobs_497 rfl ?_
                refine r_bipush (v := 10) hC dL_jobs_498 (by decide) ?_
                obtain ⟨k9, hV⟩ := hV
                refine r_callV (ci := 6) (As := [.int 10]) hC dL_jobs_500 rfl cf_X6_count ml_7_13 im_X6_count sl_X6_count lq_6 rfl rfl k9 rfl ⟨(Nat.le_of_ble_eq_true rfl), (Nat.le_of_ble_eq_true rfl), (Nat.le_of_ble_eq_true rfl), (Nat.le_of_ble_eq_true rfl)⟩ (csI (csI cs0)) (Nat.le_of_ble_eq_true rfl) (con_X6_count a0 10 h6 _ hV) rfl (kI (k := 6) (n := 230) (fun r7 h7 hV => ?_))
                refine r_iload hC dL_jobs_503 rfl ?_
                refine r_isub hC dL_jobs_505 ?_
                refine r_isub hC dL_jobs_506 ?_
                refine r_icmp_ne (tgt := 536) hC dL_jobs_507 (by decide) (fun k9 => ?_) (fun k9 => ?_)
                · replace hV := hV.1 k9
                  refine r_sub (lo1 := [none, none, none, none, none, none, none, none, none, none]) ⟨Or.inl rfl, ⟨Or.inl rfl, ⟨Or.inl rfl, ⟨Or.inl rfl, ⟨Or.inl rfl, ⟨Or.inl rfl, ⟨Or.inl rfl, ⟨Or.inl rfl, ⟨Or.inl rfl, ⟨Or.inl rfl, trivial⟩⟩⟩⟩⟩⟩⟩⟩⟩⟩ ?_
                  exact ok_L_jobs_536 hC hQ  h7 hV
                · replace hV := hV.2 k9
                  refine r_aload_n hC dL_jobs_510 rfl ?_
                  refine r_iload hC dL_jobs_511 rfl ?_
                  refine r_iconst (v := 3) hC dL_jobs_513 (by decide) ?_
                  obtain ⟨k9, hV⟩ := hV
                  refine r_callV (ci := 6) (As := [.int r2, .int 3]) hC dL_jobs_514 rfl cf_X6_job ml_7_23 im_X6_job sl_X6_job lq_6 rfl rfl k9 rfl ⟨(Nat.le_of_ble_eq_true rfl), (Nat.le_of_ble_eq_true rfl), (Nat.le_of_ble_eq_true rfl), (Nat.le_of_ble_eq_true rfl)⟩ cs0 (Nat.le_of_ble_eq_true rfl) (con_X6_job a0 r2 3 h7 _ hV) rfl (kI (k := 6) (n := 230) (fun r8 h8 hV => ?_))
                  refine r_iconst (v := 4) hC dL_jobs_517 (by decide) ?_
                  refine r_icmp_ne (tgt := 536) hC dL_jobs_518 (by decide) (fun k9 => ?_) (fun k9 => ?_)
                  · replace hV := hV.1 k9
                    refine r_sub (lo1 := [none, none, none, none, none, none, none, none, none, none]) ⟨Or.inl rfl, ⟨Or.inl rfl, ⟨Or.inl rfl, ⟨Or.inl rfl, ⟨Or.inl rfl, ⟨Or.inl rfl, ⟨Or.inl rfl, ⟨Or.inl rfl, ⟨Or.inl rfl, ⟨Or.inl rfl, trivial⟩⟩⟩⟩⟩⟩⟩⟩⟩⟩ ?_
                    exact ok_L_jobs_536 hC hQ  h8 hV
                  · replace hV := hV.2 k9
                    refine r_aload_n hC dL_jobs_521 rfl ?_
                    refine r_iload hC dL_jobs_522 rfl ?_
                    refine r_bipush (v := 7) hC dL_jobs_524 (by decide) ?_
                    obtain ⟨k9, hV⟩ := hV
                    refine r_callV (ci := 6) (As := [.int r2, .int 7]) hC dL_jobs_526 rfl cf_X6_job ml_7_23 im_X6_job sl_X6_job lq_6 rfl rfl k9 rfl ⟨(Nat.le_of_ble_eq_true rfl), (Nat.le_of_ble_eq_true rfl), (Nat.le_of_ble_eq_true rfl), (Nat.le_of_ble_eq_true rfl)⟩ cs0 (Nat.le_of_ble_eq_true rfl) (con_X6_job a0 r2 7 h8 _ hV) rfl (kI (k := 6) (n := 230) (fun r9 h9 hV => ?_))
                    refine r_if_ne (tgt := 536) hC dL_jobs_529 (by decide) (fun k9 => ?_) (fun k9 => ?_)
                    · replace hV := hV.1 k9
                      refine r_sub (lo1 := [none, none, none, none, none, none, none, none, none, none]) ⟨Or.inl rfl, ⟨Or.inl rfl, ⟨Or.inl rfl, ⟨Or.inl rfl, ⟨Or.inl rfl, ⟨Or.inl rfl, ⟨Or.inl rfl, ⟨Or.inl rfl, ⟨Or.inl rfl, ⟨Or.inl rfl, trivial⟩⟩⟩⟩⟩⟩⟩⟩⟩⟩ ?_
                      exact ok_L_jobs_536 hC hQ  h9 hV
                    · replace hV := hV.2 k9
                      refine r_iconst (v := 1) hC dL_jobs_532 (by decide) ?_
                      refine r_goto (tgt := 537) hC dL_jobs_533 (by decide) ?_
                      refine r_sub (lo1 := [none, none, none, none, none, none, none, none, none, none]) ⟨Or.inl rfl, ⟨Or.inl rfl, ⟨Or.inl rfl, ⟨Or.inl rfl, ⟨Or.inl rfl, ⟨Or.inl rfl, ⟨Or.inl rfl, ⟨Or.inl rfl, ⟨Or.inl rfl, ⟨Or.inl rfl, trivial⟩⟩⟩⟩⟩⟩⟩⟩⟩⟩ ?_
                      exact ok_L_jobs_537 hC hQ 1 h9 hV
              · replace hV := hV.2 k9
                refine r_iload hC dL_jobs_478 rfl ?_
                refine r_bipush (v := (-4)) hC dL_jobs_480 (by decide) ?_
                refine r_icmp_ne (tgt := 489) hC dL_jobs_482 (by decide) (fun k9 => ?_) (fun k9 => ?_)
                · replace hV := hV.1 k9
                  refine r_iconst (v := 0) hC dL_jobs_489 (by decide) ?_
                  refine r_goto (tgt := 537) hC dL_jobs_490 (by decide) ?_
                  refine r_sub (lo1 := [none, none, none, none, none, none, none, none, none, none]) ⟨Or.inl rfl, ⟨Or.inl rfl, ⟨Or.inl rfl, ⟨Or.inl rfl, ⟨Or.inl rfl, ⟨Or.inl rfl, ⟨Or.inl rfl, ⟨Or.inl rfl, ⟨Or.inl rfl, ⟨Or.inl rfl, trivial⟩⟩⟩⟩⟩⟩⟩⟩⟩⟩ ?_
                  exact ok_L_jobs_537 hC hQ 0 h6 hV
                · replace hV := hV.2 k9
                  refine r_iconst (v := 1) hC dL_jobs_485 (by decide) ?_
                  refine r_goto (tgt := 537) hC dL_jobs_486 (by decide) ?_
                  refine r_sub (lo1 := [none, none, none, none, none, none, none, none, none, none]) ⟨Or.inl rfl, ⟨Or.inl rfl, ⟨Or.inl rfl, ⟨Or.inl rfl, ⟨Or.inl rfl, ⟨Or.inl rfl, ⟨Or.inl rfl, ⟨Or.inl rfl, ⟨Or.inl rfl, ⟨Or.inl rfl, trivial⟩⟩⟩⟩⟩⟩⟩⟩⟩⟩ ?_
                  exact ok_L_jobs_537 hC hQ 1 h6 hV
            · replace hV := hV.2 k9
              refine r_aload_n hC dL_jobs_386 rfl ?_
              refine r_iload hC dL_jobs_387 rfl ?_
              obtain ⟨k9, hV⟩ := hV
              refine r_callV (ci := 6) (As := [.int r2]) hC dL_jobs_389 rfl cf_X6_distribute ml_7_103 im_X6_distribute sl_X6_distribute lq_6 rfl rfl k9 rfl ⟨(Nat.le_of_ble_eq_true rfl), (Nat.le_of_ble_eq_true rfl), (Nat.le_of_ble_eq_true rfl), (Nat.le_of_ble_eq_true rfl)⟩ cs0 (Nat.le_of_ble_eq_true rfl) (con_X6_distribute a0 r2 h5 _ hV) rfl (kI (k := 6) (n := 230) (fun r6 h6 hV => ?_))
              refine r_istore (lo1 := [some (rv a0), some (.int a1), some (.int a2), some (.int a3), some (.int r1), some (.int r2), some (.int r3), some (.int r4), some (.int r5), some (.int r6)]) hC dL_jobs_392 (Nat.le_of_ble_eq_true rfl) (pvI rfl) rfl ?_
              refine r_iload hC dL_jobs_394 rfl ?_
              refine r_iconst (v := 2) hC dL_jobs_396 (by decide) ?_
              refine r_icmp_eq (tgt := 415) hC dL_jobs_397 (by decide) (fun k9 => ?_) (fun k9 => ?_)
              · replace hV := hV.1 k9
                refine r_iload hC dL_jobs_415 rfl ?_
                refine r_aload_n hC dL_jobs_417 rfl ?_
                refine r_bipush (v := 10) hC dL_jobs_418 (by decide) ?_
                obtain ⟨k9, hV⟩ := hV
                refine r_callV (ci := 6) (As := [.int 10]) hC dL_jobs_420 rfl cf_X6_count ml_7_13 im_X6_count sl_X6_count lq_6 rfl rfl k9 rfl ⟨(Nat.le_of_ble_eq_true rfl), (Nat.le_of_ble_eq_true rfl), (Nat.le_of_ble_eq_true rfl), (Nat.le_of_ble_eq_true rfl)⟩ (csI cs0) (Nat.le_of_ble_eq_true rfl) (con_X6_count a0 10 h6 _ hV) rfl (kI (k := 6) (n := 230) (fun r7 h7 hV => ?_))
                refine r_iload hC dL_jobs_423 rfl ?_
                refine r_isub hC dL_jobs_425 ?_
                refine r_icmp_ne (tgt := 462) hC dL_jobs_426 (by decide) (fun k9 => ?_) (fun k9 => ?_)
                · replace hV := hV.1 k9
                  refine r_sub (lo1 := [none, none, none, none, none, none, none, none, none, none]) ⟨Or.inl rfl, ⟨Or.inl rfl, ⟨Or.inl rfl, ⟨Or.inl rfl, ⟨Or.inl rfl, ⟨Or.inl rfl, ⟨Or.inl rfl, ⟨Or.inl rfl, ⟨Or.inl rfl, ⟨Or.inl rfl, trivial⟩⟩⟩⟩⟩⟩⟩⟩⟩⟩ ?_
                  exact ok_L_jobs_462 hC hQ  h7 hV
                · replace hV := hV.2 k9
                  refine r_iload hC dL_jobs_429 rfl ?_
                  refine r_iload hC dL_jobs_431 rfl ?_
                  refine r_icmp_gt (tgt := 462) hC dL_jobs_433 (by decide) (fun k9 => ?_) (fun k9 => ?_)
                  · replace hV := hV.1 k9
                    refine r_sub (lo1 := [none, none, none, none, none, none, none, none, none, none]) ⟨Or.inl rfl, ⟨Or.inl rfl, ⟨Or.inl rfl, ⟨Or.inl rfl, ⟨Or.inl rfl, ⟨Or.inl rfl, ⟨Or.inl rfl, ⟨Or.inl rfl, ⟨Or.inl rfl, ⟨Or.inl rfl, trivial⟩⟩⟩⟩⟩⟩⟩⟩⟩⟩ ?_
                    exact ok_L_jobs_462 hC hQ  h7 hV
                  · replace hV := hV.2 k9
                    refine r_aload_n hC dL_jobs_436 rfl ?_
                    refine r_iload hC dL_jobs_437 rfl ?_
                    refine r_bipush (v := 7) hC dL_jobs_439 (by decide) ?_
                    obtain ⟨k9, hV⟩ := hV
                    refine r_callV (ci := 6) (As := [.int r2, .int 7]) hC dL_jobs_441 rfl cf_X6_job ml_7_23 im_X6_job sl_X6_job lq_6 rfl rfl k9 rfl ⟨(Nat.le_of_ble_eq_true rfl), (Nat.le_of_ble_eq_true rfl), (Nat.le_of_ble_eq_true rfl), (Nat.le_of_ble_eq_true rfl)⟩ cs0 (Nat.le_of_ble_eq_true rfl) (con_X6_job a0 r2 7 h7 _ hV) rfl (kI (k := 6) (n := 230) (fun r8 h8 hV => ?_))
                    refine r_if_ne (tgt := 462) hC dL_jobs_444 (by decide) (fun k9 => ?_) (fun k9 => ?_)
                    · replace hV := hV.1 k9
                      refine r_sub (lo1 := [none, none, none, none, none, none, none, none, none, none]) ⟨Or.inl rfl, ⟨Or.inl rfl, ⟨Or.inl rfl, ⟨Or.inl rfl, ⟨Or.inl rfl, ⟨Or.inl rfl, ⟨Or.inl rfl, ⟨Or.inl rfl, ⟨Or.inl rfl, ⟨Or.inl rfl, trivial⟩⟩⟩⟩⟩⟩⟩⟩⟩⟩ ?_
                      exact ok_L_jobs_462 hC hQ  h8 hV
                    · replace hV := hV.2 k9
                      refine r_aload_n hC dL_jobs_447 rfl ?_
                      refine r_iload hC dL_jobs_448 rfl ?_
                      refine r_iconst (v := 3) hC dL_jobs_450 (by decide) ?_
                      obtain ⟨k9, hV⟩ := hV
                      refine r_callV (ci := 6) (As := [.int r2, .int 3]) hC dL_jobs_451 rfl cf_X6_job ml_7_23 im_X6_job sl_X6_job lq_6 rfl rfl k9 rfl ⟨(Nat.le_of_ble_eq_true rfl), (Nat.le_of_ble_eq_true rfl), (Nat.le_of_ble_eq_true rfl), (Nat.le_of_ble_eq_true rfl)⟩ cs0 (Nat.le_of_ble_eq_true rfl) (con_X6_job a0 r2 3 h8 _ hV) rfl (kI (k := 6) (n := 230) (fun r9 h9 hV => ?_))
                      refine r_iconst (v := 3) hC dL_jobs_454 (by decide) ?_
                      refine r_icmp_ne (tgt := 462) hC dL_jobs_455 (by decide) (fun k9 => ?_) (fun k9 => ?_)
                      · replace hV := hV.1 k9
                        refine r_sub (lo1 := [none, none, none, none, none, none, none, none, none, none]) ⟨Or.inl rfl, ⟨Or.inl rfl, ⟨Or.inl rfl, ⟨Or.inl rfl, ⟨Or.inl rfl, ⟨Or.inl rfl, ⟨Or.inl rfl, ⟨Or.inl rfl, ⟨Or.inl rfl, ⟨Or.inl rfl, trivial⟩⟩⟩⟩⟩⟩⟩⟩⟩⟩ ?_
                        exact ok_L_jobs_462 hC hQ  h9 hV
                      · replace hV := hV.2 k9
                        refine r_iconst (v := 1) hC dL_jobs_458 (by decide) ?_
                        refine r_goto (tgt := 463) hC dL_jobs_459 (by decide) ?_
                        refine r_sub (lo1 := [none, none, none, none, none, none, none, none, none, none]) ⟨Or.inl rfl, ⟨Or.inl rfl, ⟨Or.inl rfl, ⟨Or.inl rfl, ⟨Or.inl rfl, ⟨Or.inl rfl, ⟨Or.inl rfl, ⟨Or.inl rfl, ⟨Or.inl rfl, ⟨Or.inl rfl, trivial⟩⟩⟩⟩⟩⟩⟩⟩⟩⟩ ?_
                        exact ok_L_jobs_463 hC hQ 1 h9 hV
              · replace hV := hV.2 k9
                refine r_iload hC dL_jobs_400 rfl ?_
                refine r_bipush (v := (-4)) hC dL_jobs_402 (by decide) ?_
                refine r_icmp_ne (tgt := 411) hC dL_jobs_404 (by decide) (fun k9 => ?_) (fun k9 => ?_)
                · replace hV := hV.1 k9
                  refine r_iconst (v := 0) hC dL_jobs_411 (by decide) ?_
                  refine r_goto (tgt := 463) hC dL_jobs_412 (by decide) ?_
                  refine r_sub (lo1 := [none, none, none, none, none, none, none, none, none, none]) ⟨Or.inl rfl, ⟨Or.inl rfl, ⟨Or.inl rfl, ⟨Or.inl rfl, ⟨Or.inl rfl, ⟨Or.inl rfl, ⟨Or.inl rfl, ⟨Or.inl rfl, ⟨Or.inl rfl, ⟨Or.inl rfl, trivial⟩⟩⟩⟩⟩⟩⟩⟩⟩⟩ ?_
                  exact ok_L_jobs_463 hC hQ 0 h6 hV
                · replace hV := hV.2 k9
                  refine r_iconst (v := 1) hC dL_jobs_407 (by decide) ?_
                  refine r_goto (tgt := 463) hC dL_jobs_408 (by decide) ?_
                  refine r_sub (lo1 := [none, none, none, none, none, none, none, none, none, none]) ⟨Or.inl rfl, ⟨Or.inl rfl, ⟨Or.inl rfl, ⟨Or.inl rfl, ⟨Or.inl rfl, ⟨Or.inl rfl, ⟨Or.inl rfl, ⟨Or.inl rfl, ⟨Or.inl rfl, ⟨Or.inl rfl, trivial⟩⟩⟩⟩⟩⟩⟩⟩⟩⟩ ?_
                  exact ok_L_jobs_463 hC hQ 1 h6 hV
          · replace hV := hV.2 k9
            refine r_aload_n hC dL_jobs_286 rfl ?_
            refine r_bipush (v := 11) hC dL_jobs_287 (by decide) ?_
            obtain ⟨k9, hV⟩ := hV
            refine r_callV (ci := 6) (As := [.int 11]) hC dL_jobs_289 rfl cf_X6_count ml_7_13 im_X6_count sl_X6_count lq_6 rfl rfl k9 rfl ⟨(Nat.le_of_ble_eq_true rfl), (Nat.le_of_ble_eq_true rfl), (Nat.le_of_ble_eq_true rfl), (Nat.le_of_ble_eq_true rfl)⟩ cs0 (Nat.le_of_ble_eq_true rfl) (con_X6_count a0 11 h3 _ hV) rfl (kI (k := 0) (n := 0) (fun r4 h4 hV => ?_))
            refine r_aload_n hC dL_jobs_292 rfl ?_
            refine r_iload hC dL_jobs_293 rfl ?_
            refine r_iconst (v := 2) hC dL_jobs_295 (by decide) ?_
            obtain ⟨k9, hV⟩ := hV
            refine r_callV (ci := 6) (As := [.int r2, .int 2]) hC dL_jobs_296 rfl cf_X6_job ml_7_23 im_X6_job sl_X6_job lq_6 rfl rfl k9 rfl ⟨(Nat.le_of_ble_eq_true rfl), (Nat.le_of_ble_eq_true rfl), (Nat.le_of_ble_eq_true rfl), (Nat.le_of_ble_eq_true rfl)⟩ (csI cs0) (Nat.le_of_ble_eq_true rfl) (con_X6_job a0 r2 2 h4 _ hV) rfl (kI (k := 0) (n := 0) (fun r5 h5 hV => ?_))
            refine r_isub hC dL_jobs_299 ?_
            refine r_istore (lo1 := [some (rv a0), some (.int a1), some (.int a2), some (.int a3), some (.int r1), some (.int r2), some (.int r3), some (.int (r4 - r5)), none, none]) hC dL_jobs_300 (Nat.le_of_ble_eq_true rfl) (pvI rfl) rfl ?_
            refine r_aload_n hC dL_jobs_302 rfl ?_
            refine r_iload hC dL_jobs_303 rfl ?_
            obtain ⟨k9, hV⟩ := hV
            refine r_callV (ci := 6) (As := [.int r2]) hC dL_jobs_305 rfl cf_X6_print ml_7_100 im_X6_print sl_X6_print lq_6 rfl rfl k9 rfl ⟨(Nat.le_of_ble_eq_true rfl), (Nat.le_of_ble_eq_true rfl), (Nat.le_of_ble_eq_true rfl), (Nat.le_of_ble_eq_true rfl)⟩ cs0 (Nat.le_of_ble_eq_true rfl) (con_X6_print a0 r2 h5 _ hV) rfl (kI (k := 5) (n := 230) (fun r6 h6 hV => ?_))
            refine r_iload hC dL_jobs_308 rfl ?_
            refine r_iconst (v := 1) hC dL_jobs_310 (by decide) ?_
            refine r_icmp_eq (tgt := 319) hC dL_jobs_311 (by decide) (fun k9 => ?_) (fun k9 => ?_)
            · replace hV := hV.1 k9
              refine r_iload hC dL_jobs_319 rfl ?_
              refine r_if_ge (tgt := 328) hC dL_jobs_321 (by decide) (fun k9 => ?_) (fun k9 => ?_)
              · replace hV := hV.1 k9
                refine r_iload hC dL_jobs_328 rfl ?_
                refine r_sub (lo1 := [some (rv a0), none, none, none, none, some (.int r2), some (.int r3), none, none, none]) ⟨Or.inr rfl, ⟨Or.inl rfl, ⟨Or.inl rfl, ⟨Or.inl rfl, ⟨Or.inl rfl, ⟨Or.inr rfl, ⟨Or.inr rfl, ⟨Or.inl rfl, ⟨Or.inl rfl, ⟨Or.inl rfl, trivial⟩⟩⟩⟩⟩⟩⟩⟩⟩⟩ ?_
                exact ok_L_jobs_330 hC hQ a0 r2 r3 r6 (r4 - r5) h6 hV
              · replace hV := hV.2 k9
                refine r_iconst (v := 0) hC dL_jobs_324 (by decide) ?_
                refine r_goto (tgt := 330) hC dL_jobs_325 (by decide) ?_
                refine r_sub (lo1 := [some (rv a0), none, none, none, none, some (.int r2), some (.int r3), none, none, none]) ⟨Or.inr rfl, ⟨Or.inl rfl, ⟨Or.inl rfl, ⟨Or.inl rfl, ⟨Or.inl rfl, ⟨Or.inr rfl, ⟨Or.inr rfl, ⟨Or.inl rfl, ⟨Or.inl rfl, ⟨Or.inl rfl, trivial⟩⟩⟩⟩⟩⟩⟩⟩⟩⟩ ?_
                exact ok_L_jobs_330 hC hQ a0 r2 r3 r6 0 h6 hV
            · replace hV := hV.2 k9
              refine r_bipush (v := (-4)) hC dL_jobs_314 (by decide) ?_
              refine r_goto (tgt := 330) hC dL_jobs_316 (by decide) ?_
              refine r_sub (lo1 := [some (rv a0), none, none, none, none, some (.int r2), some (.int r3), none, none, none]) ⟨Or.inr rfl, ⟨Or.inl rfl, ⟨Or.inl rfl, ⟨Or.inl rfl, ⟨Or.inl rfl, ⟨Or.inr rfl, ⟨Or.inr rfl, ⟨Or.inl rfl, ⟨Or.inl rfl, ⟨Or.inl rfl, trivial⟩⟩⟩⟩⟩⟩⟩⟩⟩⟩ ?_
              exact ok_L_jobs_330 hC hQ a0 r2 r3 r6 (-4) h6 hV
        · replace hV := hV.2 k9
          refine r_aload_n hC dL_jobs_191 rfl ?_
          refine r_iload hC dL_jobs_192 rfl ?_
          obtain ⟨k9, hV⟩ := hV
          refine r_callV (ci := 6) (As := [.int r2]) hC dL_jobs_194 rfl cf_X6_castMissing ml_7_97 im_X6_castMissing sl_X6_castMissing lq_6 rfl rfl k9 rfl ⟨(Nat.le_of_ble_eq_true rfl), (Nat.le_of_ble_eq_true rfl), (Nat.le_of_ble_eq_true rfl), (Nat.le_of_ble_eq_true rfl)⟩ cs0 (Nat.le_of_ble_eq_true rfl) (con_X6_castMissing a0 r2 h3 _ hV) rfl (kI (k := 4) (n := 226) (fun r4 h4 hV => ?_))
          refine r_istore (lo1 := [some (rv a0), some (.int a1), some (.int a2), some (.int a3), some (.int r1), some (.int r2), some (.int r3), some (.int r4), none, none]) hC dL_jobs_197 (Nat.le_of_ble_eq_true rfl) (pvI rfl) rfl ?_
          refine r_iload hC dL_jobs_199 rfl ?_
          refine r_if_ne (tgt := 209) hC dL_jobs_201 (by decide) (fun k9 => ?_) (fun k9 => ?_)
          · replace hV := hV.1 k9
            refine r_sub (lo1 := [none, none, none, none, none, none, some (.int r3), some (.int r4), none, none]) ⟨Or.inl rfl, ⟨Or.inl rfl, ⟨Or.inl rfl, ⟨Or.inl rfl, ⟨Or.inl rfl, ⟨Or.inl rfl, ⟨Or.inr rfl, ⟨Or.inr rfl, ⟨Or.inl rfl, ⟨Or.inl rfl, trivial⟩⟩⟩⟩⟩⟩⟩⟩⟩⟩ ?_
            exact ok_L_jobs_209 hC hQ r3 r4 h4 hV
          · replace hV := hV.2 k9
            refine r_iload hC dL_jobs_204 rfl ?_
            refine r_if_ge (tgt := 249) hC dL_jobs_206 (by decide) (fun k9 => ?_) (fun k9 => ?_)
            · replace hV := hV.1 k9
              refine r_iload hC dL_jobs_249 rfl ?_
              refine r_if_le (tgt := 278) hC dL_jobs_251 (by decide) (fun k9 => ?_) (fun k9 => ?_)
              · replace hV := hV.1 k9
                refine r_wide (k1 := 11) (n1 := 659) (Nat.le_of_ble_eq_true rfl) (Nat.le_of_ble_eq_true rfl) ?_
                refine r_sub (lo1 := [none, none, none, none, none, none, none, none, none, none]) ⟨Or.inl rfl, ⟨Or.inl rfl, ⟨Or.inl rfl, ⟨Or.inl rfl, ⟨Or.inl rfl, ⟨Or.inl rfl, ⟨Or.inl rfl, ⟨Or.inl rfl, ⟨Or.inl rfl, ⟨Or.inl rfl, trivial⟩⟩⟩⟩⟩⟩⟩⟩⟩⟩ ?_
                exact ok_L_jobs_278 hC hQ  h4 hV
              · replace hV := hV.2 k9
                refine r_aload_n hC dL_jobs_254 rfl ?_
                refine r_iload hC dL_jobs_255 rfl ?_
                refine r_callS (As := [rv a0, .int r2]) hC dL_jobs_257 rfl cf_L_sets ml_7_93 st_L_sets rfl ⟨(Nat.le_of_ble_eq_true rfl), (Nat.le_of_ble_eq_true rfl), (Nat.le_of_ble_eq_true rfl), (Nat.le_of_ble_eq_true rfl)⟩ cs0 (Nat.le_of_ble_eq_true rfl) (con_L_sets a0 r2 h4 _ hV) rfl (kI (k := 11) (n := 659) (fun r5 h5 hV => ?_))
                refine r_if_eq (tgt := 278) hC dL_jobs_260 (by decide) (fun k9 => ?_) (fun k9 => ?_)
                · replace hV := hV.1 k9
                  refine r_sub (lo1 := [none, none, none, none, none, none, none, none, none, none]) ⟨Or.inl rfl, ⟨Or.inl rfl, ⟨Or.inl rfl, ⟨Or.inl rfl, ⟨Or.inl rfl, ⟨Or.inl rfl, ⟨Or.inl rfl, ⟨Or.inl rfl, ⟨Or.inl rfl, ⟨Or.inl rfl, trivial⟩⟩⟩⟩⟩⟩⟩⟩⟩⟩ ?_
                  exact ok_L_jobs_278 hC hQ  h5 hV
                · replace hV := hV.2 k9
                  refine r_aload_n hC dL_jobs_263 rfl ?_
                  refine r_iload hC dL_jobs_264 rfl ?_
                  refine r_iconst (v := 3) hC dL_jobs_266 (by decide) ?_
                  obtain ⟨k9, hV⟩ := hV
                  refine r_callV (ci := 6) (As := [.int r2, .int 3]) hC dL_jobs_267 rfl cf_X6_job ml_7_23 im_X6_job sl_X6_job lq_6 rfl rfl k9 rfl ⟨(Nat.le_of_ble_eq_true rfl), (Nat.le_of_ble_eq_true rfl), (Nat.le_of_ble_eq_true rfl), (Nat.le_of_ble_eq_true rfl)⟩ cs0 (Nat.le_of_ble_eq_true rfl) (con_X6_job a0 r2 3 h5 _ hV) rfl (kI (k := 11) (n := 659) (fun r6 h6 hV => ?_))
                  refine r_iconst (v := 1) hC dL_jobs_270 (by decide) ?_
                  refine r_icmp_ne (tgt := 278) hC dL_jobs_271 (by decide) (fun k9 => ?_) (fun k9 => ?_)
                  · replace hV := hV.1 k9
                    refine r_sub (lo1 := [none, none, none, none, none, none, none, none, none, none]) ⟨Or.inl rfl, ⟨Or.inl rfl, ⟨Or.inl rfl, ⟨Or.inl rfl, ⟨Or.inl rfl, ⟨Or.inl rfl, ⟨Or.inl rfl, ⟨Or.inl rfl, ⟨Or.inl rfl, ⟨Or.inl rfl, trivial⟩⟩⟩⟩⟩⟩⟩⟩⟩⟩ ?_
                    exact ok_L_jobs_278 hC hQ  h6 hV
                  · replace hV := hV.2 k9
                    refine r_iconst (v := 1) hC dL_jobs_274 (by decide) ?_
                    refine r_goto (tgt := 279) hC dL_jobs_275 (by decide) ?_
                    refine r_sub (lo1 := [none, none, none, none, none, none, none, none, none, none]) ⟨Or.inl rfl, ⟨Or.inl rfl, ⟨Or.inl rfl, ⟨Or.inl rfl, ⟨Or.inl rfl, ⟨Or.inl rfl, ⟨Or.inl rfl, ⟨Or.inl rfl, ⟨Or.inl rfl, ⟨Or.inl rfl, trivial⟩⟩⟩⟩⟩⟩⟩⟩⟩⟩ ?_
                    exact ok_L_jobs_279 hC hQ 1 h6 hV
            · replace hV := hV.2 k9
              refine r_sub (lo1 := [none, none, none, none, none, none, some (.int r3), some (.int r4), none, none]) ⟨Or.inl rfl, ⟨Or.inl rfl, ⟨Or.inl rfl, ⟨Or.inl rfl, ⟨Or.inl rfl, ⟨Or.inl rfl, ⟨Or.inr rfl, ⟨Or.inr rfl, ⟨Or.inl rfl, ⟨Or.inl rfl, trivial⟩⟩⟩⟩⟩⟩⟩⟩⟩⟩ ?_
              exact ok_L_jobs_209 hC hQ r3 r4 h4 hV
      · replace hV := hV.2 k9
        refine r_aload_n hC dL_jobs_178 rfl ?_
        refine r_iload hC dL_jobs_179 rfl ?_
        refine r_callS (As := [rv a0, .int r2]) hC dL_jobs_181 rfl cf_L_sets ml_7_93 st_L_sets rfl ⟨(Nat.le_of_ble_eq_true rfl), (Nat.le_of_ble_eq_true rfl), (Nat.le_of_ble_eq_true rfl), (Nat.le_of_ble_eq_true rfl)⟩ cs0 (Nat.le_of_ble_eq_true rfl) (con_L_sets a0 r2 h3 _ hV) rfl (kI (k := 7) (n := 433) (fun r4 h4 hV => ?_))
        exact r_zret hC hQ dL_jobs_184 (Nat.le_of_ble_eq_true rfl) (Nat.le_of_ble_eq_true rfl) hV.1 ⟨_, rfl, hV.2⟩
    · replace hV := hV.2 k9
      refine r_sub (lo1 := [some (rv a0), none, some (.int a2), some (.int a3), some (.int r1), none, none, none, none, none]) ⟨Or.inr rfl, ⟨Or.inl rfl, ⟨Or.inr rfl, ⟨Or.inr rfl, ⟨Or.inr rfl, ⟨Or.inl rfl, ⟨Or.inl rfl, ⟨Or.inl rfl, ⟨Or.inl rfl, ⟨Or.inl rfl, trivial⟩⟩⟩⟩⟩⟩⟩⟩⟩⟩ ?_
      exact ok_L_jobs_18 hC hQ a0 a2 a3 r1 h1 hV
set_option maxRecDepth 100000 in
set_option maxHeartbeats 4000000 in
theorem con_L_jobs {E : Ev} {l0 : Launch} (a0 : Nat) (a1 : Int32) (a2 : Int32) (a3 : Int32) (h : Hp) (K : Int32 → Hp → Prop) (hV : V_L_jobs a0 a1 a2 a3 h K) : Con E l0 yL_jobs cL_jobs 10 (some .boolean) rm_L_jobs [rv a0, .int a1, .int a2, .int a3] h (KI K) := by
  refine Con.of (by decide +kernel) (cat_R (cat_I (cat_I (cat_I cat_nil)))) (Nat.le_of_ble_eq_true rfl) (fun X hC hQ => ?_)
  refine r_sub (lo1 := [some (rv a0), some (.int a1), some (.int a2), some (.int a3), none, none, none, none, none, none]) (show lsub [some (rv a0), some (.int a1), some (.int a2), some (.int a3), none, none, none, none, none, none] _ from ⟨Or.inr rfl, ⟨Or.inr rfl, ⟨Or.inr rfl, ⟨Or.inr rfl, ⟨Or.inr rfl, ⟨Or.inr rfl, ⟨Or.inr rfl, ⟨Or.inr rfl, ⟨Or.inr rfl, ⟨Or.inr rfl, trivial⟩⟩⟩⟩⟩⟩⟩⟩⟩⟩) ?_
  exact ok_L_jobs_0 hC hQ a0 a1 a2 a3 h hV
theorem dL_kept_0 : decode cL_kept 0 = .ok (.iconst 0, 1) := by decide +kernel
theorem dL_kept_1 : decode cL_kept 1 = .ok (.istore_n 1, 1) := by decide +kernel
theorem dL_kept_2 : decode cL_kept 2 = .ok (.iconst 0, 1) := by decide +kernel
theorem dL_kept_3 : decode cL_kept 3 = .ok (.istore_n 2, 1) := by decide +kernel
theorem dL_kept_4 : decode cL_kept 4 = .ok (.iconst 0, 1) := by decide +kernel
theorem dL_kept_5 : decode cL_kept 5 = .ok (.istore_n 3, 1) := by decide +kernel
theorem dL_kept_6 : decode cL_kept 6 = .ok (.iconst 0, 1) := by decide +kernel
theorem dL_kept_7 : decode cL_kept 7 = .ok (.istore 4, 2) := by decide +kernel
theorem dL_kept_9 : decode cL_kept 9 = .ok (.iconst 0, 1) := by decide +kernel
theorem dL_kept_10 : decode cL_kept 10 = .ok (.istore 5, 2) := by decide +kernel
theorem dL_kept_12 : decode cL_kept 12 = .ok (.iconst 0, 1) := by decide +kernel
theorem dL_kept_13 : decode cL_kept 13 = .ok (.istore 6, 2) := by decide +kernel
theorem dL_kept_15 : decode cL_kept 15 = .ok (.iconst 0, 1) := by decide +kernel
theorem dL_kept_16 : decode cL_kept 16 = .ok (.istore 7, 2) := by decide +kernel
theorem dL_kept_18 : decode cL_kept 18 = .ok (.iload 7, 2) := by decide +kernel
theorem dL_kept_20 : decode cL_kept 20 = .ok (.bipush 29, 2) := by decide +kernel
theorem dL_kept_22 : decode cL_kept 22 = .ok (.if_icmp .ge 151, 3) := by decide +kernel
theorem dL_kept_25 : decode cL_kept 25 = .ok (.iconst 0, 1) := by decide +kernel
theorem dL_kept_26 : decode cL_kept 26 = .ok (.istore 8, 2) := by decide +kernel
theorem dL_kept_28 : decode cL_kept 28 = .ok (.iload 8, 2) := by decide +kernel
theorem dL_kept_30 : decode cL_kept 30 = .ok (.aload_n 0, 1) := by decide +kernel
theorem dL_kept_31 : decode cL_kept 31 = .ok (.iconst 0, 1) := by decide +kernel
theorem dL_kept_32 : decode cL_kept 32 = .ok (.invokevirtual 13, 3) := by decide +kernel
theorem dL_kept_35 : decode cL_kept 35 = .ok (.if_icmp .ge 104, 3) := by decide +kernel
theorem dL_kept_38 : decode cL_kept 38 = .ok (.aload_n 0, 1) := by decide +kernel
theorem dL_kept_39 : decode cL_kept 39 = .ok (.iload 8, 2) := by decide +kernel
theorem dL_kept_41 : decode cL_kept 41 = .ok (.iload 7, 2) := by decide +kernel
theorem dL_kept_43 : decode cL_kept 43 = .ok (.invokevirtual 19, 3) := by decide +kernel
theorem dL_kept_46 : decode cL_kept 46 = .ok (.istore 9, 2) := by decide +kernel
theorem dL_kept_48 : decode cL_kept 48 = .ok (.iload_n 1, 1) := by decide +kernel
theorem dL_kept_49 : decode cL_kept 49 = .ok (.iload 9, 2) := by decide +kernel
theorem dL_kept_51 : decode cL_kept 51 = .ok (.iadd, 1) := by decide +kernel
theorem dL_kept_52 : decode cL_kept 52 = .ok (.istore_n 1, 1) := by decide +kernel
theorem dL_kept_53 : decode cL_kept 53 = .ok (.iload_n 2, 1) := by decide +kernel
theorem dL_kept_54 : decode cL_kept 54 = .ok (.iload 9, 2) := by decide +kernel
theorem dL_kept_56 : decode cL_kept 56 = .ok (.iload 7, 2) := by decide +kernel
theorem dL_kept_58 : decode cL_kept 58 = .ok (.invokestatic 26, 3) := by decide +kernel
theorem dL_kept_61 : decode cL_kept 61 = .ok (.imul, 1) := by decide +kernel
theorem dL_kept_62 : decode cL_kept 62 = .ok (.iadd, 1) := by decide +kernel
theorem dL_kept_63 : decode cL_kept 63 = .ok (.istore_n 2, 1) := by decide +kernel
theorem dL_kept_64 : decode cL_kept 64 = .ok (.iload 9, 2) := by decide +kernel
theorem dL_kept_66 : decode cL_kept 66 = .ok (.ifCond .lt 10, 3) := by decide +kernel
theorem dL_kept_69 : decode cL_kept 69 = .ok (.iload 9, 2) := by decide +kernel
theorem dL_kept_71 : decode cL_kept 71 = .ok (.bipush 99, 2) := by decide +kernel
theorem dL_kept_73 : decode cL_kept 73 = .ok (.if_icmp .le 5, 3) := by decide +kernel
theorem dL_kept_76 : decode cL_kept 76 = .ok (.iconst 0, 1) := by decide +kernel
theorem dL_kept_77 : decode cL_kept 77 = .ok (.ireturn, 1) := by decide +kernel
theorem dL_kept_78 : decode cL_kept 78 = .ok (.iconst 0, 1) := by decide +kernel
theorem dL_kept_79 : decode cL_kept 79 = .ok (.istore 10, 2) := by decide +kernel
theorem dL_kept_81 : decode cL_kept 81 = .ok (.iload 10, 2) := by decide +kernel
theorem dL_kept_83 : decode cL_kept 83 = .ok (.aload_n 0, 1) := by decide +kernel
theorem dL_kept_84 : decode cL_kept 84 = .ok (.iconst 1, 1) := by decide +kernel
theorem dL_kept_85 : decode cL_kept 85 = .ok (.invokevirtual 13, 3) := by decide +kernel
theorem dL_kept_88 : decode cL_kept 88 = .ok (.if_icmp .ge 45, 3) := by decide +kernel
theorem dL_kept_91 : decode cL_kept 91 = .ok (.iload 5, 2) := by decide +kernel
theorem dL_kept_93 : decode cL_kept 93 = .ok (.aload_n 0, 1) := by decide +kernel
theorem dL_kept_94 : decode cL_kept 94 = .ok (.iload 10, 2) := by decide +kernel
theorem dL_kept_96 : decode cL_kept 96 = .ok (.iload 8, 2) := by decide +kernel
theorem dL_kept_98 : decode cL_kept 98 = .ok (.iload 7, 2) := by decide +kernel
theorem dL_kept_100 : decode cL_kept 100 = .ok (.invokevirtual 31, 3) := by decide +kernel
theorem dL_kept_103 : decode cL_kept 103 = .ok (.iadd, 1) := by decide +kernel
theorem dL_kept_104 : decode cL_kept 104 = .ok (.istore 5, 2) := by decide +kernel
theorem dL_kept_106 : decode cL_kept 106 = .ok (.iload 6, 2) := by decide +kernel
theorem dL_kept_108 : decode cL_kept 108 = .ok (.aload_n 0, 1) := by decide +kernel
theorem dL_kept_109 : decode cL_kept 109 = .ok (.iload 10, 2) := by decide +kernel
theorem dL_kept_111 : decode cL_kept 111 = .ok (.iload 8, 2) := by decide +kernel
theorem dL_kept_113 : decode cL_kept 113 = .ok (.iload 7, 2) := by decide +kernel
theorem dL_kept_115 : decode cL_kept 115 = .ok (.invokevirtual 31, 3) := by decide +kernel
theorem dL_kept_118 : decode cL_kept 118 = .ok (.iload 7, 2) := by decide +kernel
theorem dL_kept_120 : decode cL_kept 120 = .ok (.invokestatic 26, 3) := by decide +kernel
theorem dL_kept_123 : decode cL_kept 123 = .ok (.imul, 1) := by decide +kernel
theorem dL_kept_124 : decode cL_kept 124 = .ok (.iadd, 1) := by decide +kernel
theorem dL_kept_125 : decode cL_kept 125 = .ok (.istore 6, 2) := by decide +kernel
theorem dL_kept_127 : decode cL_kept 127 = .ok (.iinc 10 1, 3) := by decide +kernel
theorem dL_kept_130 : decode cL_kept 130 = .ok (.goto (-49), 3) := by decide +kernel
theorem dL_kept_133 : decode cL_kept 133 = .ok (.iinc 8 1, 3) := by decide +kernel
theorem dL_kept_136 : decode cL_kept 136 = .ok (.goto (-108), 3) := by decide +kernel
theorem dL_kept_139 : decode cL_kept 139 = .ok (.iload_n 3, 1) := by decide +kernel
theorem dL_kept_140 : decode cL_kept 140 = .ok (.aload_n 0, 1) := by decide +kernel
theorem dL_kept_141 : decode cL_kept 141 = .ok (.iconst (-1), 1) := by decide +kernel
theorem dL_kept_142 : decode cL_kept 142 = .ok (.iload 7, 2) := by decide +kernel
theorem dL_kept_144 : decode cL_kept 144 = .ok (.invokevirtual 19, 3) := by decide +kernel
theorem dL_kept_147 : decode cL_kept 147 = .ok (.iadd, 1) := by decide +kernel
theorem dL_kept_148 : decode cL_kept 148 = .ok (.istore_n 3, 1) := by decide +kernel
theorem dL_kept_149 : decode cL_kept 149 = .ok (.iload 4, 2) := by decide +kernel
theorem dL_kept_151 : decode cL_kept 151 = .ok (.aload_n 0, 1) := by decide +kernel
theorem dL_kept_152 : decode cL_kept 152 = .ok (.iconst (-1), 1) := by decide +kernel
theorem dL_kept_153 : decode cL_kept 153 = .ok (.iload 7, 2) := by decide +kernel
theorem dL_kept_155 : decode cL_kept 155 = .ok (.invokevirtual 19, 3) := by decide +kernel
theorem dL_kept_158 : decode cL_kept 158 = .ok (.iload 7, 2) := by decide +kernel
theorem dL_kept_160 : decode cL_kept 160 = .ok (.invokestatic 26, 3) := by decide +kernel
theorem dL_kept_163 : decode cL_kept 163 = .ok (.imul, 1) := by decide +kernel
theorem dL_kept_164 : decode cL_kept 164 = .ok (.iadd, 1) := by decide +kernel
theorem dL_kept_165 : decode cL_kept 165 = .ok (.istore 4, 2) := by decide +kernel
theorem dL_kept_167 : decode cL_kept 167 = .ok (.iinc 7 1, 3) := by decide +kernel
theorem dL_kept_170 : decode cL_kept 170 = .ok (.goto (-152), 3) := by decide +kernel
theorem dL_kept_173 : decode cL_kept 173 = .ok (.aload_n 0, 1) := by decide +kernel
theorem dL_kept_174 : decode cL_kept 174 = .ok (.bipush 8, 2) := by decide +kernel
theorem dL_kept_176 : decode cL_kept 176 = .ok (.invokevirtual 13, 3) := by decide +kernel
theorem dL_kept_179 : decode cL_kept 179 = .ok (.aload_n 0, 1) := by decide +kernel
theorem dL_kept_180 : decode cL_kept 180 = .ok (.bipush 9, 2) := by decide +kernel
theorem dL_kept_182 : decode cL_kept 182 = .ok (.invokevirtual 13, 3) := by decide +kernel
theorem dL_kept_185 : decode cL_kept 185 = .ok (.isub, 1) := by decide +kernel
theorem dL_kept_186 : decode cL_kept 186 = .ok (.iload_n 1, 1) := by decide +kernel
theorem dL_kept_187 : decode cL_kept 187 = .ok (.iload 5, 2) := by decide +kernel
theorem dL_kept_189 : decode cL_kept 189 = .ok (.iadd, 1) := by decide +kernel
theorem dL_kept_190 : decode cL_kept 190 = .ok (.iload_n 3, 1) := by decide +kernel
theorem dL_kept_191 : decode cL_kept 191 = .ok (.iadd, 1) := by decide +kernel
theorem dL_kept_192 : decode cL_kept 192 = .ok (.if_icmp .ne 46, 3) := by decide +kernel
theorem dL_kept_195 : decode cL_kept 195 = .ok (.aload_n 0, 1) := by decide +kernel
theorem dL_kept_196 : decode cL_kept 196 = .ok (.bipush 10, 2) := by decide +kernel
theorem dL_kept_198 : decode cL_kept 198 = .ok (.invokevirtual 13, 3) := by decide +kernel
theorem dL_kept_201 : decode cL_kept 201 = .ok (.iload_n 3, 1) := by decide +kernel
theorem dL_kept_202 : decode cL_kept 202 = .ok (.if_icmp .ne 36, 3) := by decide +kernel
theorem dL_kept_205 : decode cL_kept 205 = .ok (.aload_n 0, 1) := by decide +kernel
theorem dL_kept_206 : decode cL_kept 206 = .ok (.iconst 5, 1) := by decide +kernel
theorem dL_kept_207 : decode cL_kept 207 = .ok (.invokevirtual 13, 3) := by decide +kernel
theorem dL_kept_210 : decode cL_kept 210 = .ok (.iload 4, 2) := by decide +kernel
theorem dL_kept_212 : decode cL_kept 212 = .ok (.if_icmp .ne 26, 3) := by decide +kernel
theorem dL_kept_215 : decode cL_kept 215 = .ok (.aload_n 0, 1) := by decide +kernel
theorem dL_kept_216 : decode cL_kept 216 = .ok (.iconst 4, 1) := by decide +kernel
theorem dL_kept_217 : decode cL_kept 217 = .ok (.invokevirtual 13, 3) := by decide +kernel
theorem dL_kept_220 : decode cL_kept 220 = .ok (.iload 6, 2) := by decide +kernel
theorem dL_kept_222 : decode cL_kept 222 = .ok (.if_icmp .ne 16, 3) := by decide +kernel
theorem dL_kept_225 : decode cL_kept 225 = .ok (.aload_n 0, 1) := by decide +kernel
theorem dL_kept_226 : decode cL_kept 226 = .ok (.iconst 3, 1) := by decide +kernel
theorem dL_kept_227 : decode cL_kept 227 = .ok (.invokevirtual 13, 3) := by decide +kernel
theorem dL_kept_230 : decode cL_kept 230 = .ok (.iload_n 2, 1) := by decide +kernel
theorem dL_kept_231 : decode cL_kept 231 = .ok (.if_icmp .ne 7, 3) := by decide +kernel
theorem dL_kept_234 : decode cL_kept 234 = .ok (.iconst 1, 1) := by decide +kernel
theorem dL_kept_235 : decode cL_kept 235 = .ok (.goto 4, 3) := by decide +kernel
theorem dL_kept_238 : decode cL_kept 238 = .ok (.iconst 0, 1) := by decide +kernel
theorem dL_kept_239 : decode cL_kept 239 = .ok (.istore 7, 2) := by decide +kernel
theorem dL_kept_241 : decode cL_kept 241 = .ok (.iload 7, 2) := by decide +kernel
theorem dL_kept_243 : decode cL_kept 243 = .ok (.ifCond .eq 61, 3) := by decide +kernel
theorem dL_kept_246 : decode cL_kept 246 = .ok (.aload_n 0, 1) := by decide +kernel
theorem dL_kept_247 : decode cL_kept 247 = .ok (.bipush 6, 2) := by decide +kernel
theorem dL_kept_249 : decode cL_kept 249 = .ok (.invokevirtual 13, 3) := by decide +kernel
theorem dL_kept_252 : decode cL_kept 252 = .ok (.aload_n 0, 1) := by decide +kernel
theorem dL_kept_253 : decode cL_kept 253 = .ok (.iconst 2, 1) := by decide +kernel
theorem dL_kept_254 : decode cL_kept 254 = .ok (.invokevirtual 13, 3) := by decide +kernel
theorem dL_kept_257 : decode cL_kept 257 = .ok (.iload_n 2, 1) := by decide +kernel
theorem dL_kept_258 : decode cL_kept 258 = .ok (.iadd, 1) := by decide +kernel
theorem dL_kept_259 : decode cL_kept 259 = .ok (.iload 6, 2) := by decide +kernel
theorem dL_kept_261 : decode cL_kept 261 = .ok (.iadd, 1) := by decide +kernel
theorem dL_kept_262 : decode cL_kept 262 = .ok (.iload 4, 2) := by decide +kernel
theorem dL_kept_264 : decode cL_kept 264 = .ok (.iadd, 1) := by decide +kernel
theorem dL_kept_265 : decode cL_kept 265 = .ok (.aload_n 0, 1) := by decide +kernel
theorem dL_kept_266 : decode cL_kept 266 = .ok (.bipush 7, 2) := by decide +kernel
theorem dL_kept_268 : decode cL_kept 268 = .ok (.invokevirtual 13, 3) := by decide +kernel
theorem dL_kept_271 : decode cL_kept 271 = .ok (.iadd, 1) := by decide +kernel
theorem dL_kept_272 : decode cL_kept 272 = .ok (.if_icmp .ne 32, 3) := by decide +kernel
theorem dL_kept_275 : decode cL_kept 275 = .ok (.aload_n 0, 1) := by decide +kernel
theorem dL_kept_276 : decode cL_kept 276 = .ok (.aload_n 0, 1) := by decide +kernel
theorem dL_kept_277 : decode cL_kept 277 = .ok (.iconst 0, 1) := by decide +kernel
theorem dL_kept_278 : decode cL_kept 278 = .ok (.invokevirtual 13, 3) := by decide +kernel
theorem dL_kept_281 : decode cL_kept 281 = .ok (.iconst 0, 1) := by decide +kernel
theorem dL_kept_282 : decode cL_kept 282 = .ok (.invokevirtual 19, 3) := by decide +kernel
theorem dL_kept_285 : decode cL_kept 285 = .ok (.iconst (-1), 1) := by decide +kernel
theorem dL_kept_286 : decode cL_kept 286 = .ok (.if_icmp .ne 18, 3) := by decide +kernel
theorem dL_kept_289 : decode cL_kept 289 = .ok (.aload_n 0, 1) := by decide +kernel
theorem dL_kept_290 : decode cL_kept 290 = .ok (.iconst 0, 1) := by decide +kernel
theorem dL_kept_291 : decode cL_kept 291 = .ok (.bipush 29, 2) := by decide +kernel
theorem dL_kept_293 : decode cL_kept 293 = .ok (.invokevirtual 19, 3) := by decide +kernel
theorem dL_kept_296 : decode cL_kept 296 = .ok (.iconst (-1), 1) := by decide +kernel
theorem dL_kept_297 : decode cL_kept 297 = .ok (.if_icmp .ne 7, 3) := by decide +kernel
theorem dL_kept_300 : decode cL_kept 300 = .ok (.iconst 1, 1) := by decide +kernel
theorem dL_kept_301 : decode cL_kept 301 = .ok (.goto 4, 3) := by decide +kernel
theorem dL_kept_304 : decode cL_kept 304 = .ok (.iconst 0, 1) := by decide +kernel
theorem dL_kept_305 : decode cL_kept 305 = .ok (.ireturn, 1) := by decide +kernel
def rm_L_kept : Room := { frames := 6, cells := 0, slots := 0, locals := 133 }
set_option maxRecDepth 100000 in
set_option maxHeartbeats 4000000 in
theorem ok_L_kept_76 {E : Ev} {X : Xt} {l0 : Launch} {K : Int32 → Hp → Prop} (hC : Cx E X l0 RL cL_kept 11 rm_L_kept) (hQ : CQ E X "kept" (some .boolean) rm_L_kept (KI K)) (h : Hp) (hV : V_L_kept_76 K  h) : WW E X h 0 0 76 [none, none, none, none, none, none, none, none, none, none, none] [] := by
  unfold V_L_kept_76 at hV
  refine r_iconst (v := 0) hC dL_kept_76 (by decide) ?_
  exact r_zret hC hQ dL_kept_77 (Nat.le_of_ble_eq_true rfl) (Nat.le_of_ble_eq_true rfl) hV.1 ⟨_, rfl, hV.2⟩
set_option maxRecDepth 100000 in
set_option maxHeartbeats 4000000 in
theorem ok_L_kept_81 {E : Ev} {X : Xt} {l0 : Launch} {K : Int32 → Hp → Prop} {C18 : Nat → Int32 → Int32 → Int32 → Int32 → Int32 → Int32 → Int32 → Hp → Prop} {C28 : Nat → Int32 → Int32 → Int32 → Int32 → Int32 → Int32 → Int32 → Int32 → Hp → Prop} (hC : Cx E X l0 RL cL_kept 11 rm_L_kept) (hQ : CQ E X "kept" (some .boolean) rm_L_kept (KI K)) (hC18 : ∀ (a0 : Nat) (a1 : Int32) (a2 : Int32) (a3 : Int32) (a4 : Int32) (a5 : Int32) (a6 : Int32) (a7 : Int32) (h : Hp), C18 a0 a1 a2 a3 a4 a5 a6 a7 h → WW E X h 0 0 18 [some (rv a0), some (.int a1), some (.int a2), some (.int a3), some (.int a4), some (.int a5), some (.int a6), some (.int a7), none, none, none] []) (hC28 : ∀ (a0 : Nat) (a1 : Int32) (a2 : Int32) (a3 : Int32) (a4 : Int32) (a5 : Int32) (a6 : Int32) (a7 : Int32) (a8 : Int32) (h : Hp), C28 a0 a1 a2 a3 a4 a5 a6 a7 a8 h → WW E X h 0 0 28 [some (rv a0), some (.int a1), some (.int a2), some (.int a3), some (.int a4), some (.int a5), some (.int a6), some (.int a7), some (.int a8), none, none] []) : ∀ (n : Nat) (a0 : Nat) (a1 : Int32) (a2 : Int32) (a3 : Int32) (a4 : Int32) (a5 : Int32) (a6 : Int32) (a7 : Int32) (a8 : Int32) (a10 : Int32) (h : Hp), V_L_kept_81 K C18 C28 n a0 a1 a2 a3 a4 a5 a6 a7 a8 a10 h → WW E X h 0 0 81 [some (rv a0), some (.int a1), some (.int a2), some (.int a3), some (.int a4), some (.int a5), some (.int a6), some (.int a7), some (.int a8), none, some (.int a10)] [] := by
  intro n
  induction n with
  | zero => intro a0 a1 a2 a3 a4 a5 a6 a7 a8 a10 h hV; exact hV.elim
  | succ n ih =>
    intro a0 a1 a2 a3 a4 a5 a6 a7 a8 a10 h hV
    unfold V_L_kept_81 at hV
    refine r_iload hC dL_kept_81 rfl ?_
    refine r_aload_n hC dL_kept_83 rfl ?_
    refine r_iconst (v := 1) hC dL_kept_84 (by decide) ?_
    obtain ⟨k9, hV⟩ := hV
    refine r_callV (ci := 6) (As := [.int 1]) hC dL_kept_85 rfl cf_X6_count ml_7_13 im_X6_count sl_X6_count lq_6 rfl rfl k9 rfl ⟨(Nat.le_of_ble_eq_true rfl), (Nat.le_of_ble_eq_true rfl), (Nat.le_of_ble_eq_true rfl), (Nat.le_of_ble_eq_true rfl)⟩ (csI cs0) (Nat.le_of_ble_eq_true rfl) (con_X6_count a0 1 h _ hV) rfl (kI (k := 0) (n := 0) (fun r1 h1 hV => ?_))
    refine r_icmp_ge (tgt := 133) hC dL_kept_88 (by decide) (fun k9 => ?_) (fun k9 => ?_)
    · replace hV := hV.1 k9
      refine r_iinc (v := 1) (lo1 := [some (rv a0), some (.int a1), some (.int a2), some (.int a3), some (.int a4), some (.int a5), some (.int a6), some (.int a7), some (.int (a8 + 1)), none, some (.int a10)]) hC dL_kept_133 rfl (by decide) (pvI rfl) rfl ?_
      refine r_goto (tgt := 28) hC dL_kept_136 (by decide) ?_
      refine r_sub (lo1 := [some (rv a0), some (.int a1), some (.int a2), some (.int a3), some (.int a4), some (.int a5), some (.int a6), some (.int a7), some (.int (a8 + 1)), none, none]) ⟨Or.inr rfl, ⟨Or.inr rfl, ⟨Or.inr rfl, ⟨Or.inr rfl, ⟨Or.inr rfl, ⟨Or.inr rfl, ⟨Or.inr rfl, ⟨Or.inr rfl, ⟨Or.inr rfl, ⟨Or.inl rfl, ⟨Or.inl rfl, trivial⟩⟩⟩⟩⟩⟩⟩⟩⟩⟩⟩ ?_
      exact hC28 a0 a1 a2 a3 a4 a5 a6 a7 (a8 + 1) h1 hV
    · replace hV := hV.2 k9
      refine r_iload hC dL_kept_91 rfl ?_
      refine r_aload_n hC dL_kept_93 rfl ?_
      refine r_iload hC dL_kept_94 rfl ?_
      refine r_iload hC dL_kept_96 rfl ?_
      refine r_iload hC dL_kept_98 rfl ?_
      obtain ⟨k9, hV⟩ := hV
      refine r_callV (ci := 6) (As := [.int a10, .int a8, .int a7]) hC dL_kept_100 rfl cf_X6_taken ml_7_31 im_X6_taken sl_X6_taken lq_6 rfl rfl k9 rfl ⟨(Nat.le_of_ble_eq_true rfl), (Nat.le_of_ble_eq_true rfl), (Nat.le_of_ble_eq_true rfl), (Nat.le_of_ble_eq_true rfl)⟩ (csI cs0) (Nat.le_of_ble_eq_true rfl) (con_X6_taken a0 a10 a8 a7 h1 _ hV) rfl (kI (k := 0) (n := 0) (fun r2 h2 hV => ?_))
      refine r_iadd hC dL_kept_103 ?_
      refine r_istore (lo1 := [some (rv a0), some (.int a1), some (.int a2), some (.int a3), some (.int a4), some (.int (a5 + r2)), some (.int a6), some (.int a7), some (.int a8), none, some (.int a10)]) hC dL_kept_104 (Nat.le_of_ble_eq_true rfl) (pvI rfl) rfl ?_
      refine r_iload hC dL_kept_106 rfl ?_
      refine r_aload_n hC dL_kept_108 rfl ?_
      refine r_iload hC dL_kept_109 rfl ?_
      refine r_iload hC dL_kept_111 rfl ?_
      refine r_iload hC dL_kept_113 rfl ?_
      obtain ⟨k9, hV⟩ := hV
      refine r_callV (ci := 6) (As := [.int a10, .int a8, .int a7]) hC dL_kept_115 rfl cf_X6_taken ml_7_31 im_X6_taken sl_X6_taken lq_6 rfl rfl k9 rfl ⟨(Nat.le_of_ble_eq_true rfl), (Nat.le_of_ble_eq_true rfl), (Nat.le_of_ble_eq_true rfl), (Nat.le_of_ble_eq_true rfl)⟩ (csI cs0) (Nat.le_of_ble_eq_true rfl) (con_X6_taken a0 a10 a8 a7 h2 _ hV) rfl (kI (k := 0) (n := 0) (fun r3 h3 hV => ?_))
      refine r_iload hC dL_kept_118 rfl ?_
      refine r_callS (As := [.int a7]) hC dL_kept_120 rfl cf_L_width ml_7_26 st_L_width rfl ⟨(Nat.le_of_ble_eq_true rfl), (Nat.le_of_ble_eq_true rfl), (Nat.le_of_ble_eq_true rfl), (Nat.le_of_ble_eq_true rfl)⟩ (csI (csI cs0)) (Nat.le_of_ble_eq_true rfl) (con_L_width a7 h3 _ hV) rfl (kI (k := 0) (n := 0) (fun r4 h4 hV => ?_))
      refine r_imul hC dL_kept_123 ?_
      refine r_iadd hC dL_kept_124 ?_
      refine r_istore (lo1 := [some (rv a0), some (.int a1), some (.int a2), some (.int a3), some (.int a4), some (.int (a5 + r2)), some (.int (a6 + (r3 * r4))), some (.int a7), some (.int a8), none, some (.int a10)]) hC dL_kept_125 (Nat.le_of_ble_eq_true rfl) (pvI rfl) rfl ?_
      refine r_iinc (v := 1) (lo1 := [some (rv a0), some (.int a1), some (.int a2), some (.int a3), some (.int a4), some (.int (a5 + r2)), some (.int (a6 + (r3 * r4))), some (.int a7), some (.int a8), none, some (.int (a10 + 1))]) hC dL_kept_127 rfl (by decide) (pvN rfl) rfl ?_
      refine r_goto (tgt := 81) hC dL_kept_130 (by decide) ?_
      exact ih a0 a1 a2 a3 a4 (a5 + r2) (a6 + (r3 * r4)) a7 a8 (a10 + 1) h4 hV
set_option maxRecDepth 100000 in
set_option maxHeartbeats 4000000 in
theorem ok_L_kept_28 {E : Ev} {X : Xt} {l0 : Launch} {K : Int32 → Hp → Prop} {C18 : Nat → Int32 → Int32 → Int32 → Int32 → Int32 → Int32 → Int32 → Hp → Prop} (hC : Cx E X l0 RL cL_kept 11 rm_L_kept) (hQ : CQ E X "kept" (some .boolean) rm_L_kept (KI K)) (hC18 : ∀ (a0 : Nat) (a1 : Int32) (a2 : Int32) (a3 : Int32) (a4 : Int32) (a5 : Int32) (a6 : Int32) (a7 : Int32) (h : Hp), C18 a0 a1 a2 a3 a4 a5 a6 a7 h → WW E X h 0 0 18 [some (rv a0), some (.int a1), some (.int a2), some (.int a3), some (.int a4), some (.int a5), some (.int a6), some (.int a7), none, none, none] []) : ∀ (n : Nat) (a0 : Nat) (a1 : Int32) (a2 : Int32) (a3 : Int32) (a4 : Int32) (a5 : Int32) (a6 : Int32) (a7 : Int32) (a8 : Int32) (h : Hp), V_L_kept_28 K C18 n a0 a1 a2 a3 a4 a5 a6 a7 a8 h → WW E X h 0 0 28 [some (rv a0), some (.int a1), some (.int a2), some (.int a3), some (.int a4), some (.int a5), some (.int a6), some (.int a7), some (.int a8), none, none] [] := by
  intro n
  induction n with
  | zero => intro a0 a1 a2 a3 a4 a5 a6 a7 a8 h hV; exact hV.elim
  | succ n ih =>
    intro a0 a1 a2 a3 a4 a5 a6 a7 a8 h hV
    unfold V_L_kept_28 at hV
    refine r_iload hC dL_kept_28 rfl ?_
    refine r_aload_n hC dL_kept_30 rfl ?_
    refine r_iconst (v := 0) hC dL_kept_31 (by decide) ?_
    obtain ⟨k9, hV⟩ := hV
    refine r_callV (ci := 6) (As := [.int 0]) hC dL_kept_32 rfl cf_X6_count ml_7_13 im_X6_count sl_X6_count lq_6 rfl rfl k9 rfl ⟨(Nat.le_of_ble_eq_true rfl), (Nat.le_of_ble_eq_true rfl), (Nat.le_of_ble_eq_true rfl), (Nat.le_of_ble_eq_true rfl)⟩ (csI cs0) (Nat.le_of_ble_eq_true rfl) (con_X6_count a0 0 h _ hV) rfl (kI (k := 0) (n := 0) (fun r1 h1 hV => ?_))
    refine r_icmp_ge (tgt := 139) hC dL_kept_35 (by decide) (fun k9 => ?_) (fun k9 => ?_)
    · replace hV := hV.1 k9
      refine r_iload_n hC dL_kept_139 rfl ?_
      refine r_aload_n hC dL_kept_140 rfl ?_
      refine r_iconst (v := (-1)) hC dL_kept_141 (by decide) ?_
      refine r_iload hC dL_kept_142 rfl ?_
      obtain ⟨k9, hV⟩ := hV
      refine r_callV (ci := 6) (As := [.int (-1), .int a7]) hC dL_kept_144 rfl cf_X6_pieces ml_7_19 im_X6_pieces sl_X6_pieces lq_6 rfl rfl k9 rfl ⟨(Nat.le_of_ble_eq_true rfl), (Nat.le_of_ble_eq_true rfl), (Nat.le_of_ble_eq_true rfl), (Nat.le_of_ble_eq_true rfl)⟩ (csI cs0) (Nat.le_of_ble_eq_true rfl) (con_X6_pieces a0 (-1) a7 h1 _ hV) rfl (kI (k := 0) (n := 0) (fun r2 h2 hV => ?_))
      refine r_iadd hC dL_kept_147 ?_
      refine r_istore_n (ii := 3) (lo1 := [some (rv a0), some (.int a1), some (.int a2), some (.int (a3 + r2)), some (.int a4), some (.int a5), some (.int a6), some (.int a7), some (.int a8), none, none]) hC dL_kept_148 rfl (Nat.le_of_ble_eq_true rfl) (pvI rfl) rfl ?_
      refine r_iload hC dL_kept_149 rfl ?_
      refine r_aload_n hC dL_kept_151 rfl ?_
      refine r_iconst (v := (-1)) hC dL_kept_152 (by decide) ?_
      refine r_iload hC dL_kept_153 rfl ?_
      obtain ⟨k9, hV⟩ := hV
      refine r_callV (ci := 6) (As := [.int (-1), .int a7]) hC dL_kept_155 rfl cf_X6_pieces ml_7_19 im_X6_pieces sl_X6_pieces lq_6 rfl rfl k9 rfl ⟨(Nat.le_of_ble_eq_true rfl), (Nat.le_of_ble_eq_true rfl), (Nat.le_of_ble_eq_true rfl), (Nat.le_of_ble_eq_true rfl)⟩ (csI cs0) (Nat.le_of_ble_eq_true rfl) (con_X6_pieces a0 (-1) a7 h2 _ hV) rfl (kI (k := 0) (n := 0) (fun r3 h3 hV => ?_))
      refine r_iload hC dL_kept_158 rfl ?_
      refine r_callS (As := [.int a7]) hC dL_kept_160 rfl cf_L_width ml_7_26 st_L_width rfl ⟨(Nat.le_of_ble_eq_true rfl), (Nat.le_of_ble_eq_true rfl), (Nat.le_of_ble_eq_true rfl), (Nat.le_of_ble_eq_true rfl)⟩ (csI (csI cs0)) (Nat.le_of_ble_eq_true rfl) (con_L_width a7 h3 _ hV) rfl (kI (k := 0) (n := 0) (fun r4 h4 hV => ?_))
      refine r_imul hC dL_kept_163 ?_
      refine r_iadd hC dL_kept_164 ?_
      refine r_istore (lo1 := [some (rv a0), some (.int a1), some (.int a2), some (.int (a3 + r2)), some (.int (a4 + (r3 * r4))), some (.int a5), some (.int a6), some (.int a7), some (.int a8), none, none]) hC dL_kept_165 (Nat.le_of_ble_eq_true rfl) (pvI rfl) rfl ?_
      refine r_iinc (v := 1) (lo1 := [some (rv a0), some (.int a1), some (.int a2), some (.int (a3 + r2)), some (.int (a4 + (r3 * r4))), some (.int a5), some (.int a6), some (.int (a7 + 1)), some (.int a8), none, none]) hC dL_kept_167 rfl (by decide) (pvI rfl) rfl ?_
      refine r_goto (tgt := 18) hC dL_kept_170 (by decide) ?_
      refine r_sub (lo1 := [some (rv a0), some (.int a1), some (.int a2), some (.int (a3 + r2)), some (.int (a4 + (r3 * r4))), some (.int a5), some (.int a6), some (.int (a7 + 1)), none, none, none]) ⟨Or.inr rfl, ⟨Or.inr rfl, ⟨Or.inr rfl, ⟨Or.inr rfl, ⟨Or.inr rfl, ⟨Or.inr rfl, ⟨Or.inr rfl, ⟨Or.inr rfl, ⟨Or.inl rfl, ⟨Or.inl rfl, ⟨Or.inl rfl, trivial⟩⟩⟩⟩⟩⟩⟩⟩⟩⟩⟩ ?_
      exact hC18 a0 a1 a2 (a3 + r2) (a4 + (r3 * r4)) a5 a6 (a7 + 1) h4 hV
    · replace hV := hV.2 k9
      refine r_aload_n hC dL_kept_38 rfl ?_
      refine r_iload hC dL_kept_39 rfl ?_
      refine r_iload hC dL_kept_41 rfl ?_
      obtain ⟨k9, hV⟩ := hV
      refine r_callV (ci := 6) (As := [.int a8, .int a7]) hC dL_kept_43 rfl cf_X6_pieces ml_7_19 im_X6_pieces sl_X6_pieces lq_6 rfl rfl k9 rfl ⟨(Nat.le_of_ble_eq_true rfl), (Nat.le_of_ble_eq_true rfl), (Nat.le_of_ble_eq_true rfl), (Nat.le_of_ble_eq_true rfl)⟩ cs0 (Nat.le_of_ble_eq_true rfl) (con_X6_pieces a0 a8 a7 h1 _ hV) rfl (kI (k := 0) (n := 0) (fun r2 h2 hV => ?_))
      refine r_istore (lo1 := [some (rv a0), some (.int a1), some (.int a2), some (.int a3), some (.int a4), some (.int a5), some (.int a6), some (.int a7), some (.int a8), some (.int r2), none]) hC dL_kept_46 (Nat.le_of_ble_eq_true rfl) (pvI rfl) rfl ?_
      refine r_iload_n hC dL_kept_48 rfl ?_
      refine r_iload hC dL_kept_49 rfl ?_
      refine r_iadd hC dL_kept_51 ?_
      refine r_istore_n (ii := 1) (lo1 := [some (rv a0), some (.int (a1 + r2)), some (.int a2), some (.int a3), some (.int a4), some (.int a5), some (.int a6), some (.int a7), some (.int a8), some (.int r2), none]) hC dL_kept_52 rfl (Nat.le_of_ble_eq_true rfl) (pvR rfl) rfl ?_
      refine r_iload_n hC dL_kept_53 rfl ?_
      refine r_iload hC dL_kept_54 rfl ?_
      refine r_iload hC dL_kept_56 rfl ?_
      refine r_callS (As := [.int a7]) hC dL_kept_58 rfl cf_L_width ml_7_26 st_L_width rfl ⟨(Nat.le_of_ble_eq_true rfl), (Nat.le_of_ble_eq_true rfl), (Nat.le_of_ble_eq_true rfl), (Nat.le_of_ble_eq_true rfl)⟩ (csI (csI cs0)) (Nat.le_of_ble_eq_true rfl) (con_L_width a7 h2 _ hV) rfl (kI (k := 0) (n := 0) (fun r3 h3 hV => ?_))
      refine r_imul hC dL_kept_61 ?_
      refine r_iadd hC dL_kept_62 ?_
      refine r_istore_n (ii := 2) (lo1 := [some (rv a0), some (.int (a1 + r2)), some (.int (a2 + (r2 * r3))), some (.int a3), some (.int a4), some (.int a5), some (.int a6), some (.int a7), some (.int a8), some (.int r2), none]) hC dL_kept_63 rfl (Nat.le_of_ble_eq_true rfl) (pvI rfl) rfl ?_
      refine r_iload hC dL_kept_64 rfl ?_
      refine r_if_lt (tgt := 76) hC dL_kept_66 (by decide) (fun k9 => ?_) (fun k9 => ?_)
      · replace hV := hV.1 k9
        refine r_sub (lo1 := [none, none, none, none, none, none, none, none, none, none, none]) ⟨Or.inl rfl, ⟨Or.inl rfl, ⟨Or.inl rfl, ⟨Or.inl rfl, ⟨Or.inl rfl, ⟨Or.inl rfl, ⟨Or.inl rfl, ⟨Or.inl rfl, ⟨Or.inl rfl, ⟨Or.inl rfl, ⟨Or.inl rfl, trivial⟩⟩⟩⟩⟩⟩⟩⟩⟩⟩⟩ ?_
        exact ok_L_kept_76 hC hQ  h3 hV
      · replace hV := hV.2 k9
        refine r_iload hC dL_kept_69 rfl ?_
        refine r_bipush (v := 99) hC dL_kept_71 (by decide) ?_
        refine r_icmp_le (tgt := 78) hC dL_kept_73 (by decide) (fun k9 => ?_) (fun k9 => ?_)
        · replace hV := hV.1 k9
          refine r_iconst (v := 0) hC dL_kept_78 (by decide) ?_
          refine r_istore (lo1 := [some (rv a0), some (.int (a1 + r2)), some (.int (a2 + (r2 * r3))), some (.int a3), some (.int a4), some (.int a5), some (.int a6), some (.int a7), some (.int a8), some (.int r2), some (.int 0)]) hC dL_kept_79 (Nat.le_of_ble_eq_true rfl) (pvI rfl) rfl ?_
          refine r_sub (lo1 := [some (rv a0), some (.int (a1 + r2)), some (.int (a2 + (r2 * r3))), some (.int a3), some (.int a4), some (.int a5), some (.int a6), some (.int a7), some (.int a8), none, some (.int 0)]) ⟨Or.inr rfl, ⟨Or.inr rfl, ⟨Or.inr rfl, ⟨Or.inr rfl, ⟨Or.inr rfl, ⟨Or.inr rfl, ⟨Or.inr rfl, ⟨Or.inr rfl, ⟨Or.inr rfl, ⟨Or.inl rfl, ⟨Or.inr rfl, trivial⟩⟩⟩⟩⟩⟩⟩⟩⟩⟩⟩ ?_
          obtain ⟨n9, hV⟩ := hV
          exact ok_L_kept_81 hC hQ hC18 ih n9 a0 (a1 + r2) (a2 + (r2 * r3)) a3 a4 a5 a6 a7 a8 0 h3 hV
        · replace hV := hV.2 k9
          refine r_sub (lo1 := [none, none, none, none, none, none, none, none, none, none, none]) ⟨Or.inl rfl, ⟨Or.inl rfl, ⟨Or.inl rfl, ⟨Or.inl rfl, ⟨Or.inl rfl, ⟨Or.inl rfl, ⟨Or.inl rfl, ⟨Or.inl rfl, ⟨Or.inl rfl, ⟨Or.inl rfl, ⟨Or.inl rfl, trivial⟩⟩⟩⟩⟩⟩⟩⟩⟩⟩⟩ ?_
          exact ok_L_kept_76 hC hQ  h3 hV
set_option maxRecDepth 100000 in
set_option maxHeartbeats 4000000 in
theorem ok_L_kept_305 {E : Ev} {X : Xt} {l0 : Launch} {K : Int32 → Hp → Prop} (hC : Cx E X l0 RL cL_kept 11 rm_L_kept) (hQ : CQ E X "kept" (some .boolean) rm_L_kept (KI K)) (s0 : Int32) (h : Hp) (hV : V_L_kept_305 K s0 h) : WW E X h 0 0 305 [none, none, none, none, none, none, none, none, none, none, none] [.int s0] := by
  unfold V_L_kept_305 at hV
  exact r_zret hC hQ dL_kept_305 (Nat.le_of_ble_eq_true rfl) (Nat.le_of_ble_eq_true rfl) hV.1 ⟨_, rfl, hV.2⟩
set_option maxRecDepth 100000 in
set_option maxHeartbeats 4000000 in
theorem ok_L_kept_304 {E : Ev} {X : Xt} {l0 : Launch} {K : Int32 → Hp → Prop} (hC : Cx E X l0 RL cL_kept 11 rm_L_kept) (hQ : CQ E X "kept" (some .boolean) rm_L_kept (KI K)) (h : Hp) (hV : V_L_kept_304 K  h) : WW E X h 0 0 304 [none, none, none, none, none, none, none, none, none, none, none] [] := by
  unfold V_L_kept_304 at hV
  refine r_iconst (v := 0) hC dL_kept_304 (by decide) ?_
  exact ok_L_kept_305 hC hQ 0 h hV
set_option maxRecDepth 100000 in
set_option maxHeartbeats 4000000 in
theorem ok_L_kept_239 {E : Ev} {X : Xt} {l0 : Launch} {K : Int32 → Hp → Prop} (hC : Cx E X l0 RL cL_kept 11 rm_L_kept) (hQ : CQ E X "kept" (some .boolean) rm_L_kept (KI K)) (a0 : Nat) (a2 : Int32) (a4 : Int32) (a6 : Int32) (s0 : Int32) (h : Hp) (hV : V_L_kept_239 K a0 a2 a4 a6 s0 h) : WW E X h 0 0 239 [some (rv a0), none, some (.int a2), none, some (.int a4), none, some (.int a6), none, none, none, none] [.int s0] := by
  unfold V_L_kept_239 at hV
  refine r_istore (lo1 := [some (rv a0), none, some (.int a2), none, some (.int a4), none, some (.int a6), some (.int s0), none, none, none]) hC dL_kept_239 (Nat.le_of_ble_eq_true rfl) (pvI rfl) rfl ?_
  refine r_iload hC dL_kept_241 rfl ?_
  refine r_if_eq (tgt := 304) hC dL_kept_243 (by decide) (fun k9 => ?_) (fun k9 => ?_)
  · replace hV := hV.1 k9
    refine r_sub (lo1 := [none, none, none, none, none, none, none, none, none, none, none]) ⟨Or.inl rfl, ⟨Or.inl rfl, ⟨Or.inl rfl, ⟨Or.inl rfl, ⟨Or.inl rfl, ⟨Or.inl rfl, ⟨Or.inl rfl, ⟨Or.inl rfl, ⟨Or.inl rfl, ⟨Or.inl rfl, ⟨Or.inl rfl, trivial⟩⟩⟩⟩⟩⟩⟩⟩⟩⟩⟩ ?_
    exact ok_L_kept_304 hC hQ  h hV
  · replace hV := hV.2 k9
    refine r_aload_n hC dL_kept_246 rfl ?_
    refine r_bipush (v := 6) hC dL_kept_247 (by decide) ?_
    obtain ⟨k9, hV⟩ := hV
    refine r_callV (ci := 6) (As := [.int 6]) hC dL_kept_249 rfl cf_X6_count ml_7_13 im_X6_count sl_X6_count lq_6 rfl rfl k9 rfl ⟨(Nat.le_of_ble_eq_true rfl), (Nat.le_of_ble_eq_true rfl), (Nat.le_of_ble_eq_true rfl), (Nat.le_of_ble_eq_true rfl)⟩ cs0 (Nat.le_of_ble_eq_true rfl) (con_X6_count a0 6 h _ hV) rfl (kI (k := 0) (n := 0) (fun r1 h1 hV => ?_))
    refine r_aload_n hC dL_kept_252 rfl ?_
    refine r_iconst (v := 2) hC dL_kept_253 (by decide) ?_
    obtain ⟨k9, hV⟩ := hV
    refine r_callV (ci := 6) (As := [.int 2]) hC dL_kept_254 rfl cf_X6_count ml_7_13 im_X6_count sl_X6_count lq_6 rfl rfl k9 rfl ⟨(Nat.le_of_ble_eq_true rfl), (Nat.le_of_ble_eq_true rfl), (Nat.le_of_ble_eq_true rfl), (Nat.le_of_ble_eq_true rfl)⟩ (csI cs0) (Nat.le_of_ble_eq_true rfl) (con_X6_count a0 2 h1 _ hV) rfl (kI (k := 0) (n := 0) (fun r2 h2 hV => ?_))
    refine r_iload_n hC dL_kept_257 rfl ?_
    refine r_iadd hC dL_kept_258 ?_
    refine r_iload hC dL_kept_259 rfl ?_
    refine r_iadd hC dL_kept_261 ?_
    refine r_iload hC dL_kept_262 rfl ?_
    refine r_iadd hC dL_kept_264 ?_
    refine r_aload_n hC dL_kept_265 rfl ?_
    refine r_bipush (v := 7) hC dL_kept_266 (by decide) ?_
    obtain ⟨k9, hV⟩ := hV
    refine r_callV (ci := 6) (As := [.int 7]) hC dL_kept_268 rfl cf_X6_count ml_7_13 im_X6_count sl_X6_count lq_6 rfl rfl k9 rfl ⟨(Nat.le_of_ble_eq_true rfl), (Nat.le_of_ble_eq_true rfl), (Nat.le_of_ble_eq_true rfl), (Nat.le_of_ble_eq_true rfl)⟩ (csI (csI cs0)) (Nat.le_of_ble_eq_true rfl) (con_X6_count a0 7 h2 _ hV) rfl (kI (k := 0) (n := 0) (fun r3 h3 hV => ?_))
    refine r_iadd hC dL_kept_271 ?_
    refine r_icmp_ne (tgt := 304) hC dL_kept_272 (by decide) (fun k9 => ?_) (fun k9 => ?_)
    · replace hV := hV.1 k9
      refine r_sub (lo1 := [none, none, none, none, none, none, none, none, none, none, none]) ⟨Or.inl rfl, ⟨Or.inl rfl, ⟨Or.inl rfl, ⟨Or.inl rfl, ⟨Or.inl rfl, ⟨Or.inl rfl, ⟨Or.inl rfl, ⟨Or.inl rfl, ⟨Or.inl rfl, ⟨Or.inl rfl, ⟨Or.inl rfl, trivial⟩⟩⟩⟩⟩⟩⟩⟩⟩⟩⟩ ?_
      exact ok_L_kept_304 hC hQ  h3 hV
    · replace hV := hV.2 k9
      refine r_aload_n hC dL_kept_275 rfl ?_
      refine r_aload_n hC dL_kept_276 rfl ?_
      refine r_iconst (v := 0) hC dL_kept_277 (by decide) ?_
      obtain ⟨k9, hV⟩ := hV
      refine r_callV (ci := 6) (As := [.int 0]) hC dL_kept_278 rfl cf_X6_count ml_7_13 im_X6_count sl_X6_count lq_6 rfl rfl k9 rfl ⟨(Nat.le_of_ble_eq_true rfl), (Nat.le_of_ble_eq_true rfl), (Nat.le_of_ble_eq_true rfl), (Nat.le_of_ble_eq_true rfl)⟩ (csR cs0) (Nat.le_of_ble_eq_true rfl) (con_X6_count a0 0 h3 _ hV) rfl (kI (k := 0) (n := 0) (fun r4 h4 hV => ?_))
      refine r_iconst (v := 0) hC dL_kept_281 (by decide) ?_
      obtain ⟨k9, hV⟩ := hV
      refine r_callV (ci := 6) (As := [.int r4, .int 0]) hC dL_kept_282 rfl cf_X6_pieces ml_7_19 im_X6_pieces sl_X6_pieces lq_6 rfl rfl k9 rfl ⟨(Nat.le_of_ble_eq_true rfl), (Nat.le_of_ble_eq_true rfl), (Nat.le_of_ble_eq_true rfl), (Nat.le_of_ble_eq_true rfl)⟩ cs0 (Nat.le_of_ble_eq_true rfl) (con_X6_pieces a0 r4 0 h4 _ hV) rfl (kI (k := 0) (n := 0) (fun r5 h5 hV => ?_))
      refine r_iconst (v := (-1)) hC dL_kept_285 (by decide) ?_
      refine r_icmp_ne (tgt := 304) hC dL_kept_286 (by decide) (fun k9 => ?_) (fun k9 => ?_)
      · replace hV := hV.1 k9
        refine r_sub (lo1 := [none, none, none, none, none, none, none, none, none, none, none]) ⟨Or.inl rfl, ⟨Or.inl rfl, ⟨Or.inl rfl, ⟨Or.inl rfl, ⟨Or.inl rfl, ⟨Or.inl rfl, ⟨Or.inl rfl, ⟨Or.inl rfl, ⟨Or.inl rfl, ⟨Or.inl rfl, ⟨Or.inl rfl, trivial⟩⟩⟩⟩⟩⟩⟩⟩⟩⟩⟩ ?_
        exact ok_L_kept_304 hC hQ  h5 hV
      · replace hV := hV.2 k9
        refine r_aload_n hC dL_kept_289 rfl ?_
        refine r_iconst (v := 0) hC dL_kept_290 (by decide) ?_
        refine r_bipush (v := 29) hC dL_kept_291 (by decide) ?_
        obtain ⟨k9, hV⟩ := hV
        refine r_callV (ci := 6) (As := [.int 0, .int 29]) hC dL_kept_293 rfl cf_X6_pieces ml_7_19 im_X6_pieces sl_X6_pieces lq_6 rfl rfl k9 rfl ⟨(Nat.le_of_ble_eq_true rfl), (Nat.le_of_ble_eq_true rfl), (Nat.le_of_ble_eq_true rfl), (Nat.le_of_ble_eq_true rfl)⟩ cs0 (Nat.le_of_ble_eq_true rfl) (con_X6_pieces a0 0 29 h5 _ hV) rfl (kI (k := 0) (n := 0) (fun r6 h6 hV => ?_))
        refine r_iconst (v := (-1)) hC dL_kept_296 (by decide) ?_
        refine r_icmp_ne (tgt := 304) hC dL_kept_297 (by decide) (fun k9 => ?_) (fun k9 => ?_)
        · replace hV := hV.1 k9
          refine r_sub (lo1 := [none, none, none, none, none, none, none, none, none, none, none]) ⟨Or.inl rfl, ⟨Or.inl rfl, ⟨Or.inl rfl, ⟨Or.inl rfl, ⟨Or.inl rfl, ⟨Or.inl rfl, ⟨Or.inl rfl, ⟨Or.inl rfl, ⟨Or.inl rfl, ⟨Or.inl rfl, ⟨Or.inl rfl, trivial⟩⟩⟩⟩⟩⟩⟩⟩⟩⟩⟩ ?_
          exact ok_L_kept_304 hC hQ  h6 hV
        · replace hV := hV.2 k9
          refine r_iconst (v := 1) hC dL_kept_300 (by decide) ?_
          refine r_goto (tgt := 305) hC dL_kept_301 (by decide) ?_
          refine r_sub (lo1 := [none, none, none, none, none, none, none, none, none, none, none]) ⟨Or.inl rfl, ⟨Or.inl rfl, ⟨Or.inl rfl, ⟨Or.inl rfl, ⟨Or.inl rfl, ⟨Or.inl rfl, ⟨Or.inl rfl, ⟨Or.inl rfl, ⟨Or.inl rfl, ⟨Or.inl rfl, ⟨Or.inl rfl, trivial⟩⟩⟩⟩⟩⟩⟩⟩⟩⟩⟩ ?_
          exact ok_L_kept_305 hC hQ 1 h6 hV
set_option maxRecDepth 100000 in
set_option maxHeartbeats 4000000 in
theorem ok_L_kept_238 {E : Ev} {X : Xt} {l0 : Launch} {K : Int32 → Hp → Prop} (hC : Cx E X l0 RL cL_kept 11 rm_L_kept) (hQ : CQ E X "kept" (some .boolean) rm_L_kept (KI K)) (a0 : Nat) (a2 : Int32) (a4 : Int32) (a6 : Int32) (h : Hp) (hV : V_L_kept_238 K a0 a2 a4 a6 h) : WW E X h 0 0 238 [some (rv a0), none, some (.int a2), none, some (.int a4), none, some (.int a6), none, none, none, none] [] := by
  unfold V_L_kept_238 at hV
  refine r_iconst (v := 0) hC dL_kept_238 (by decide) ?_
  exact ok_L_kept_239 hC hQ a0 a2 a4 a6 0 h hV
set_option maxRecDepth 100000 in
set_option maxHeartbeats 4000000 in
theorem ok_L_kept_18 {E : Ev} {X : Xt} {l0 : Launch} {K : Int32 → Hp → Prop} (hC : Cx E X l0 RL cL_kept 11 rm_L_kept) (hQ : CQ E X "kept" (some .boolean) rm_L_kept (KI K)) : ∀ (n : Nat) (a0 : Nat) (a1 : Int32) (a2 : Int32) (a3 : Int32) (a4 : Int32) (a5 : Int32) (a6 : Int32) (a7 : Int32) (h : Hp), V_L_kept_18 K n a0 a1 a2 a3 a4 a5 a6 a7 h → WW E X h 0 0 18 [some (rv a0), some (.int a1), some (.int a2), some (.int a3), some (.int a4), some (.int a5), some (.int a6), some (.int a7), none, none, none] [] := by
  intro n
  induction n with
  | zero => intro a0 a1 a2 a3 a4 a5 a6 a7 h hV; exact hV.elim
  | succ n ih =>
    intro a0 a1 a2 a3 a4 a5 a6 a7 h hV
    unfold V_L_kept_18 at hV
    refine r_iload hC dL_kept_18 rfl ?_
    refine r_bipush (v := 29) hC dL_kept_20 (by decide) ?_
    refine r_icmp_ge (tgt := 173) hC dL_kept_22 (by decide) (fun k9 => ?_) (fun k9 => ?_)
    · replace hV := hV.1 k9
      refine r_aload_n hC dL_kept_173 rfl ?_
      refine r_bipush (v := 8) hC dL_kept_174 (by decide) ?_
      obtain ⟨k9, hV⟩ := hV
      refine r_callV (ci := 6) (As := [.int 8]) hC dL_kept_176 rfl cf_X6_count ml_7_13 im_X6_count sl_X6_count lq_6 rfl rfl k9 rfl ⟨(Nat.le_of_ble_eq_true rfl), (Nat.le_of_ble_eq_true rfl), (Nat.le_of_ble_eq_true rfl), (Nat.le_of_ble_eq_true rfl)⟩ cs0 (Nat.le_of_ble_eq_true rfl) (con_X6_count a0 8 h _ hV) rfl (kI (k := 0) (n := 0) (fun r1 h1 hV => ?_))
      refine r_aload_n hC dL_kept_179 rfl ?_
      refine r_bipush (v := 9) hC dL_kept_180 (by decide) ?_
      obtain ⟨k9, hV⟩ := hV
      refine r_callV (ci := 6) (As := [.int 9]) hC dL_kept_182 rfl cf_X6_count ml_7_13 im_X6_count sl_X6_count lq_6 rfl rfl k9 rfl ⟨(Nat.le_of_ble_eq_true rfl), (Nat.le_of_ble_eq_true rfl), (Nat.le_of_ble_eq_true rfl), (Nat.le_of_ble_eq_true rfl)⟩ (csI cs0) (Nat.le_of_ble_eq_true rfl) (con_X6_count a0 9 h1 _ hV) rfl (kI (k := 0) (n := 0) (fun r2 h2 hV => ?_))
      refine r_isub hC dL_kept_185 ?_
      refine r_iload_n hC dL_kept_186 rfl ?_
      refine r_iload hC dL_kept_187 rfl ?_
      refine r_iadd hC dL_kept_189 ?_
      refine r_iload_n hC dL_kept_190 rfl ?_
      refine r_iadd hC dL_kept_191 ?_
      refine r_icmp_ne (tgt := 238) hC dL_kept_192 (by decide) (fun k9 => ?_) (fun k9 => ?_)
      · replace hV := hV.1 k9
        refine r_sub (lo1 := [some (rv a0), none, some (.int a2), none, some (.int a4), none, some (.int a6), none, none, none, none]) ⟨Or.inr rfl, ⟨Or.inl rfl, ⟨Or.inr rfl, ⟨Or.inl rfl, ⟨Or.inr rfl, ⟨Or.inl rfl, ⟨Or.inr rfl, ⟨Or.inl rfl, ⟨Or.inl rfl, ⟨Or.inl rfl, ⟨Or.inl rfl, trivial⟩⟩⟩⟩⟩⟩⟩⟩⟩⟩⟩ ?_
        exact ok_L_kept_238 hC hQ a0 a2 a4 a6 h2 hV
      · replace hV := hV.2 k9
        refine r_aload_n hC dL_kept_195 rfl ?_
        refine r_bipush (v := 10) hC dL_kept_196 (by decide) ?_
        obtain ⟨k9, hV⟩ := hV
        refine r_callV (ci := 6) (As := [.int 10]) hC dL_kept_198 rfl cf_X6_count ml_7_13 im_X6_count sl_X6_count lq_6 rfl rfl k9 rfl ⟨(Nat.le_of_ble_eq_true rfl), (Nat.le_of_ble_eq_true rfl), (Nat.le_of_ble_eq_true rfl), (Nat.le_of_ble_eq_true rfl)⟩ cs0 (Nat.le_of_ble_eq_true rfl) (con_X6_count a0 10 h2 _ hV) rfl (kI (k := 0) (n := 0) (fun r3 h3 hV => ?_))
        refine r_iload_n hC dL_kept_201 rfl ?_
        refine r_icmp_ne (tgt := 238) hC dL_kept_202 (by decide) (fun k9 => ?_) (fun k9 => ?_)
        · replace hV := hV.1 k9
          refine r_sub (lo1 := [some (rv a0), none, some (.int a2), none, some (.int a4), none, some (.int a6), none, none, none, none]) ⟨Or.inr rfl, ⟨Or.inl rfl, ⟨Or.inr rfl, ⟨Or.inl rfl, ⟨Or.inr rfl, ⟨Or.inl rfl, ⟨Or.inr rfl, ⟨Or.inl rfl, ⟨Or.inl rfl, ⟨Or.inl rfl, ⟨Or.inl rfl, trivial⟩⟩⟩⟩⟩⟩⟩⟩⟩⟩⟩ ?_
          exact ok_L_kept_238 hC hQ a0 a2 a4 a6 h3 hV
        · replace hV := hV.2 k9
          refine r_aload_n hC dL_kept_205 rfl ?_
          refine r_iconst (v := 5) hC dL_kept_206 (by decide) ?_
          obtain ⟨k9, hV⟩ := hV
          refine r_callV (ci := 6) (As := [.int 5]) hC dL_kept_207 rfl cf_X6_count ml_7_13 im_X6_count sl_X6_count lq_6 rfl rfl k9 rfl ⟨(Nat.le_of_ble_eq_true rfl), (Nat.le_of_ble_eq_true rfl), (Nat.le_of_ble_eq_true rfl), (Nat.le_of_ble_eq_true rfl)⟩ cs0 (Nat.le_of_ble_eq_true rfl) (con_X6_count a0 5 h3 _ hV) rfl (kI (k := 0) (n := 0) (fun r4 h4 hV => ?_))
          refine r_iload hC dL_kept_210 rfl ?_
          refine r_icmp_ne (tgt := 238) hC dL_kept_212 (by decide) (fun k9 => ?_) (fun k9 => ?_)
          · replace hV := hV.1 k9
            refine r_sub (lo1 := [some (rv a0), none, some (.int a2), none, some (.int a4), none, some (.int a6), none, none, none, none]) ⟨Or.inr rfl, ⟨Or.inl rfl, ⟨Or.inr rfl, ⟨Or.inl rfl, ⟨Or.inr rfl, ⟨Or.inl rfl, ⟨Or.inr rfl, ⟨Or.inl rfl, ⟨Or.inl rfl, ⟨Or.inl rfl, ⟨Or.inl rfl, trivial⟩⟩⟩⟩⟩⟩⟩⟩⟩⟩⟩ ?_
            exact ok_L_kept_238 hC hQ a0 a2 a4 a6 h4 hV
          · replace hV := hV.2 k9
            refine r_aload_n hC dL_kept_215 rfl ?_
            refine r_iconst (v := 4) hC dL_kept_216 (by decide) ?_
            obtain ⟨k9, hV⟩ := hV
            refine r_callV (ci := 6) (As := [.int 4]) hC dL_kept_217 rfl cf_X6_count ml_7_13 im_X6_count sl_X6_count lq_6 rfl rfl k9 rfl ⟨(Nat.le_of_ble_eq_true rfl), (Nat.le_of_ble_eq_true rfl), (Nat.le_of_ble_eq_true rfl), (Nat.le_of_ble_eq_true rfl)⟩ cs0 (Nat.le_of_ble_eq_true rfl) (con_X6_count a0 4 h4 _ hV) rfl (kI (k := 0) (n := 0) (fun r5 h5 hV => ?_))
            refine r_iload hC dL_kept_220 rfl ?_
            refine r_icmp_ne (tgt := 238) hC dL_kept_222 (by decide) (fun k9 => ?_) (fun k9 => ?_)
            · replace hV := hV.1 k9
              refine r_sub (lo1 := [some (rv a0), none, some (.int a2), none, some (.int a4), none, some (.int a6), none, none, none, none]) ⟨Or.inr rfl, ⟨Or.inl rfl, ⟨Or.inr rfl, ⟨Or.inl rfl, ⟨Or.inr rfl, ⟨Or.inl rfl, ⟨Or.inr rfl, ⟨Or.inl rfl, ⟨Or.inl rfl, ⟨Or.inl rfl, ⟨Or.inl rfl, trivial⟩⟩⟩⟩⟩⟩⟩⟩⟩⟩⟩ ?_
              exact ok_L_kept_238 hC hQ a0 a2 a4 a6 h5 hV
            · replace hV := hV.2 k9
              refine r_aload_n hC dL_kept_225 rfl ?_
              refine r_iconst (v := 3) hC dL_kept_226 (by decide) ?_
              obtain ⟨k9, hV⟩ := hV
              refine r_callV (ci := 6) (As := [.int 3]) hC dL_kept_227 rfl cf_X6_count ml_7_13 im_X6_count sl_X6_count lq_6 rfl rfl k9 rfl ⟨(Nat.le_of_ble_eq_true rfl), (Nat.le_of_ble_eq_true rfl), (Nat.le_of_ble_eq_true rfl), (Nat.le_of_ble_eq_true rfl)⟩ cs0 (Nat.le_of_ble_eq_true rfl) (con_X6_count a0 3 h5 _ hV) rfl (kI (k := 0) (n := 0) (fun r6 h6 hV => ?_))
              refine r_iload_n hC dL_kept_230 rfl ?_
              refine r_icmp_ne (tgt := 238) hC dL_kept_231 (by decide) (fun k9 => ?_) (fun k9 => ?_)
              · replace hV := hV.1 k9
                refine r_sub (lo1 := [some (rv a0), none, some (.int a2), none, some (.int a4), none, some (.int a6), none, none, none, none]) ⟨Or.inr rfl, ⟨Or.inl rfl, ⟨Or.inr rfl, ⟨Or.inl rfl, ⟨Or.inr rfl, ⟨Or.inl rfl, ⟨Or.inr rfl, ⟨Or.inl rfl, ⟨Or.inl rfl, ⟨Or.inl rfl, ⟨Or.inl rfl, trivial⟩⟩⟩⟩⟩⟩⟩⟩⟩⟩⟩ ?_
                exact ok_L_kept_238 hC hQ a0 a2 a4 a6 h6 hV
              · replace hV := hV.2 k9
                refine r_iconst (v := 1) hC dL_kept_234 (by decide) ?_
                refine r_goto (tgt := 239) hC dL_kept_235 (by decide) ?_
                refine r_sub (lo1 := [some (rv a0), none, some (.int a2), none, some (.int a4), none, some (.int a6), none, none, none, none]) ⟨Or.inr rfl, ⟨Or.inl rfl, ⟨Or.inr rfl, ⟨Or.inl rfl, ⟨Or.inr rfl, ⟨Or.inl rfl, ⟨Or.inr rfl, ⟨Or.inl rfl, ⟨Or.inl rfl, ⟨Or.inl rfl, ⟨Or.inl rfl, trivial⟩⟩⟩⟩⟩⟩⟩⟩⟩⟩⟩ ?_
                exact ok_L_kept_239 hC hQ a0 a2 a4 a6 1 h6 hV
    · replace hV := hV.2 k9
      refine r_iconst (v := 0) hC dL_kept_25 (by decide) ?_
      refine r_istore (lo1 := [some (rv a0), some (.int a1), some (.int a2), some (.int a3), some (.int a4), some (.int a5), some (.int a6), some (.int a7), some (.int 0), none, none]) hC dL_kept_26 (Nat.le_of_ble_eq_true rfl) (pvI rfl) rfl ?_
      obtain ⟨n9, hV⟩ := hV
      exact ok_L_kept_28 hC hQ ih n9 a0 a1 a2 a3 a4 a5 a6 a7 0 h hV
set_option maxRecDepth 100000 in
set_option maxHeartbeats 4000000 in
theorem ok_L_kept_0 {E : Ev} {X : Xt} {l0 : Launch} {K : Int32 → Hp → Prop} (hC : Cx E X l0 RL cL_kept 11 rm_L_kept) (hQ : CQ E X "kept" (some .boolean) rm_L_kept (KI K)) (a0 : Nat) (h : Hp) (hV : V_L_kept a0 h K) : WW E X h 0 0 0 [some (rv a0), none, none, none, none, none, none, none, none, none, none] [] := by
  unfold V_L_kept at hV
  refine r_iconst (v := 0) hC dL_kept_0 (by decide) ?_
  refine r_istore_n (ii := 1) (lo1 := [some (rv a0), some (.int 0), none, none, none, none, none, none, none, none, none]) hC dL_kept_1 rfl (Nat.le_of_ble_eq_true rfl) (pvR rfl) rfl ?_
  refine r_iconst (v := 0) hC dL_kept_2 (by decide) ?_
  refine r_istore_n (ii := 2) (lo1 := [some (rv a0), some (.int 0), some (.int 0), none, none, none, none, none, none, none, none]) hC dL_kept_3 rfl (Nat.le_of_ble_eq_true rfl) (pvI rfl) rfl ?_
  refine r_iconst (v := 0) hC dL_kept_4 (by decide) ?_
  refine r_istore_n (ii := 3) (lo1 := [some (rv a0), some (.int 0), some (.int 0), some (.int 0), none, none, none, none, none, none, none]) hC dL_kept_5 rfl (Nat.le_of_ble_eq_true rfl) (pvI rfl) rfl ?_
  refine r_iconst (v := 0) hC dL_kept_6 (by decide) ?_
  refine r_istore (lo1 := [some (rv a0), some (.int 0), some (.int 0), some (.int 0), some (.int 0), none, none, none, none, none, none]) hC dL_kept_7 (Nat.le_of_ble_eq_true rfl) (pvI rfl) rfl ?_
  refine r_iconst (v := 0) hC dL_kept_9 (by decide) ?_
  refine r_istore (lo1 := [some (rv a0), some (.int 0), some (.int 0), some (.int 0), some (.int 0), some (.int 0), none, none, none, none, none]) hC dL_kept_10 (Nat.le_of_ble_eq_true rfl) (pvI rfl) rfl ?_
  refine r_iconst (v := 0) hC dL_kept_12 (by decide) ?_
  refine r_istore (lo1 := [some (rv a0), some (.int 0), some (.int 0), some (.int 0), some (.int 0), some (.int 0), some (.int 0), none, none, none, none]) hC dL_kept_13 (Nat.le_of_ble_eq_true rfl) (pvI rfl) rfl ?_
  refine r_iconst (v := 0) hC dL_kept_15 (by decide) ?_
  refine r_istore (lo1 := [some (rv a0), some (.int 0), some (.int 0), some (.int 0), some (.int 0), some (.int 0), some (.int 0), some (.int 0), none, none, none]) hC dL_kept_16 (Nat.le_of_ble_eq_true rfl) (pvI rfl) rfl ?_
  obtain ⟨n9, hV⟩ := hV
  exact ok_L_kept_18 hC hQ n9 a0 0 0 0 0 0 0 0 h hV
set_option maxRecDepth 100000 in
set_option maxHeartbeats 4000000 in
theorem con_L_kept {E : Ev} {l0 : Launch} (a0 : Nat) (h : Hp) (K : Int32 → Hp → Prop) (hV : V_L_kept a0 h K) : Con E l0 yL_kept cL_kept 11 (some .boolean) rm_L_kept [rv a0] h (KI K) := by
  refine Con.of (by decide +kernel) (cat_R cat_nil) (Nat.le_of_ble_eq_true rfl) (fun X hC hQ => ?_)
  refine r_sub (lo1 := [some (rv a0), none, none, none, none, none, none, none, none, none, none]) (show lsub [some (rv a0), none, none, none, none, none, none, none, none, none, none] _ from ⟨Or.inr rfl, ⟨Or.inr rfl, ⟨Or.inr rfl, ⟨Or.inr rfl, ⟨Or.inr rfl, ⟨Or.inr rfl, ⟨Or.inr rfl, ⟨Or.inr rfl, ⟨Or.inr rfl, ⟨Or.inr rfl, ⟨Or.inr rfl, trivial⟩⟩⟩⟩⟩⟩⟩⟩⟩⟩⟩) ?_
  exact ok_L_kept_0 hC hQ a0 h hV
theorem dL_wide_0 : decode cL_wide 0 = .ok (.iload_n 0, 1) := by decide +kernel
theorem dL_wide_1 : decode cL_wide 1 = .ok (.bipush 97, 2) := by decide +kernel
theorem dL_wide_3 : decode cL_wide 3 = .ok (.if_icmp .lt 13, 3) := by decide +kernel
theorem dL_wide_6 : decode cL_wide 6 = .ok (.iload_n 0, 1) := by decide +kernel
theorem dL_wide_7 : decode cL_wide 7 = .ok (.bipush 97, 2) := by decide +kernel
theorem dL_wide_9 : decode cL_wide 9 = .ok (.isub, 1) := by decide +kernel
theorem dL_wide_10 : decode cL_wide 10 = .ok (.invokestatic 26, 3) := by decide +kernel
theorem dL_wide_13 : decode cL_wide 13 = .ok (.goto 7, 3) := by decide +kernel
theorem dL_wide_16 : decode cL_wide 16 = .ok (.iload_n 0, 1) := by decide +kernel
theorem dL_wide_17 : decode cL_wide 17 = .ok (.bipush 48, 2) := by decide +kernel
theorem dL_wide_19 : decode cL_wide 19 = .ok (.isub, 1) := by decide +kernel
theorem dL_wide_20 : decode cL_wide 20 = .ok (.ireturn, 1) := by decide +kernel
def rm_L_wide : Room := { frames := 1, cells := 0, slots := 0, locals := 20 }
set_option maxRecDepth 100000 in
set_option maxHeartbeats 4000000 in
theorem ok_L_wide_20 {E : Ev} {X : Xt} {l0 : Launch} {K : Int32 → Hp → Prop} (hC : Cx E X l0 RL cL_wide 1 rm_L_wide) (hQ : CQ E X "wide" (some .int) rm_L_wide (KI K)) (s0 : Int32) (h : Hp) (hV : V_L_wide_20 K s0 h) : WW E X h 0 0 20 [none] [.int s0] := by
  unfold V_L_wide_20 at hV
  exact r_iret hC hQ dL_wide_20 (Nat.le_of_ble_eq_true rfl) (Nat.le_of_ble_eq_true rfl) ⟨_, rfl, hV⟩
set_option maxRecDepth 100000 in
set_option maxHeartbeats 4000000 in
theorem ok_L_wide_0 {E : Ev} {X : Xt} {l0 : Launch} {K : Int32 → Hp → Prop} (hC : Cx E X l0 RL cL_wide 1 rm_L_wide) (hQ : CQ E X "wide" (some .int) rm_L_wide (KI K)) (a0 : Int32) (h : Hp) (hV : V_L_wide a0 h K) : WW E X h 0 0 0 [some (.int a0)] [] := by
  unfold V_L_wide at hV
  refine r_iload_n hC dL_wide_0 rfl ?_
  refine r_bipush (v := 97) hC dL_wide_1 (by decide) ?_
  refine r_icmp_lt (tgt := 16) hC dL_wide_3 (by decide) (fun k9 => ?_) (fun k9 => ?_)
  · replace hV := hV.1 k9
    refine r_iload_n hC dL_wide_16 rfl ?_
    refine r_bipush (v := 48) hC dL_wide_17 (by decide) ?_
    refine r_isub hC dL_wide_19 ?_
    refine r_sub (lo1 := [none]) ⟨Or.inl rfl, trivial⟩ ?_
    exact ok_L_wide_20 hC hQ (a0 - 48) h hV
  · replace hV := hV.2 k9
    refine r_iload_n hC dL_wide_6 rfl ?_
    refine r_bipush (v := 97) hC dL_wide_7 (by decide) ?_
    refine r_isub hC dL_wide_9 ?_
    refine r_callS (As := [.int (a0 - 97)]) hC dL_wide_10 rfl cf_L_width ml_7_26 st_L_width rfl ⟨(Nat.le_of_ble_eq_true rfl), (Nat.le_of_ble_eq_true rfl), (Nat.le_of_ble_eq_true rfl), (Nat.le_of_ble_eq_true rfl)⟩ cs0 (Nat.le_of_ble_eq_true rfl) (con_L_width (a0 - 97) h _ hV) rfl (kI (k := 0) (n := 0) (fun r1 h1 hV => ?_))
    refine r_goto (tgt := 20) hC dL_wide_13 (by decide) ?_
    refine r_sub (lo1 := [none]) ⟨Or.inl rfl, trivial⟩ ?_
    exact ok_L_wide_20 hC hQ r1 h1 hV
set_option maxRecDepth 100000 in
set_option maxHeartbeats 4000000 in
theorem con_L_wide {E : Ev} {l0 : Launch} (a0 : Int32) (h : Hp) (K : Int32 → Hp → Prop) (hV : V_L_wide a0 h K) : Con E l0 yL_wide cL_wide 1 (some .int) rm_L_wide [.int a0] h (KI K) := by
  refine Con.of (by decide +kernel) (cat_I cat_nil) (Nat.le_of_ble_eq_true rfl) (fun X hC hQ => ?_)
  refine r_sub (lo1 := [some (.int a0)]) (show lsub [some (.int a0)] _ from ⟨Or.inr rfl, trivial⟩) ?_
  exact ok_L_wide_0 hC hQ a0 h hV
