/-! the law: each of its calls -/
set_option maxRecDepth 100000 in
set_option maxHeartbeats 4000000 in
theorem lc_0 {E : Ev} {X : Xt} {l0 : Launch} {b L x m t k n : Nat} {xs : Nat → Int32} {h : Hp} (hC : Cx E X l0 RL cL_law 4 room_1) (hS : SX E X b L xs) (h4 : 4 * t + 4 ≤ L) (hL : L ≤ 2048) (I : INV h x m t) (z0 : hK h 0 = 0) (hk : k + 13 ≤ 600000) (hn : n + 419 ≤ 7302250) (kk : ∀ h2, INV h2 x m (t + 1) → WW E X h2 (k + 13) (n + 419) 879 [some (rv (b + 1)), some (rv x), some (rv m), some (.int (nI (4 * t)))] []) : WW E X h k n 156 [some (rv (b + 1)), some (rv x), some (rv m), some (.int (nI (4 * t)))] [] := by
  refine r_aload_n hC dL_law_156 rfl ?_
  refine r_aload_n hC dL_law_157 rfl ?_
  refine r_iload_n hC dL_law_158 rfl ?_
  refine r_iconst (v := 1) hC dL_law_159 (by decide) ?_
  refine r_iadd hC dL_law_160 ?_
  refine r_sld hC hS dL_law_161 (l_in (j := 1) h4 hL (by decide)) ?_
  refine r_callV (ci := 6) (As := [.int (xs (ix (nI (4 * t) + 1)))]) hC dL_law_162 rfl cf_X6_buy ml_L_13 im_X6_buy sl_X6_buy lq_6 rfl rfl I.kx rfl ⟨Nat.le_of_ble_eq_true rfl, Nat.le_of_ble_eq_true rfl, by show k + 4 ≤ 600000; omega, by show n + 226 ≤ 7302250; omega⟩ cs0 (Nat.le_of_ble_eq_true rfl) (con_X6_buy x (xs (ix (nI (4 * t) + 1))) h _ (sp_buy_ I _)) rfl (kI (k := k + 4) (n := n + 226) (fun r1 h1 hV => ?_))
  refine r_aload_n hC dL_law_165 rfl ?_
  refine r_aload_n hC dL_law_166 rfl ?_
  refine r_iload_n hC dL_law_167 rfl ?_
  refine r_iconst (v := 1) hC dL_law_168 (by decide) ?_
  refine r_iadd hC dL_law_169 ?_
  refine r_sld hC hS dL_law_170 (l_in (j := 1) h4 hL (by decide)) ?_
  refine r_callV (ci := 7) (As := [.int (xs (ix (nI (4 * t) + 1)))]) hC dL_law_171 rfl cf_X7_buy ml_L_17 im_X7_buy sl_X7_buy lq_7 rfl rfl hV.1 rfl ⟨Nat.le_of_ble_eq_true rfl, Nat.le_of_ble_eq_true rfl, by show k + 4 + 0 ≤ 600000; omega, by show n + 226 + 0 ≤ 7302250; omega⟩ (csI cs0) (Nat.le_of_ble_eq_true rfl) (con_X7_buy m (xs (ix (nI (4 * t) + 1))) h1 _ hV.2) rfl (kI (k := k + 4 + 0) (n := n + 226 + 0) (fun r2 h2 hW => ?_))
  refine r_icmp_eq (tgt := 879) hC dL_law_174 (by decide) (fun k9 => ?_) (fun k9 => absurd hW.1 k9)
  exact r_wide (k1 := k + 13) (n1 := n + 419) (by omega) (by omega) (kk h2 hW.2)
set_option maxRecDepth 100000 in
set_option maxHeartbeats 4000000 in
theorem lc_1 {E : Ev} {X : Xt} {l0 : Launch} {b L x m t k n : Nat} {xs : Nat → Int32} {h : Hp} (hC : Cx E X l0 RL cL_law 4 room_1) (hS : SX E X b L xs) (h4 : 4 * t + 4 ≤ L) (hL : L ≤ 2048) (I : INV h x m t) (z0 : hK h 0 = 0) (hk : k + 13 ≤ 600000) (hn : n + 419 ≤ 7302250) (kk : ∀ h2, INV h2 x m (t + 1) → WW E X h2 (k + 13) (n + 419) 879 [some (rv (b + 1)), some (rv x), some (rv m), some (.int (nI (4 * t)))] []) : WW E X h k n 179 [some (rv (b + 1)), some (rv x), some (rv m), some (.int (nI (4 * t)))] [] := by
  refine r_aload_n hC dL_law_179 rfl ?_
  refine r_callV (ci := 6) (As := []) hC dL_law_180 rfl cf_X6_addCase ml_L_18 im_X6_addCase sl_X6_addCase lq_6 rfl rfl I.kx rfl ⟨Nat.le_of_ble_eq_true rfl, Nat.le_of_ble_eq_true rfl, by show k + 4 ≤ 600000; omega, by show n + 226 ≤ 7302250; omega⟩ cs0 (Nat.le_of_ble_eq_true rfl) (con_X6_addCase x  h _ (sp_addCase_ I)) rfl (kI (k := k + 4) (n := n + 226) (fun r1 h1 hV => ?_))
  refine r_aload_n hC dL_law_183 rfl ?_
  refine r_callV (ci := 7) (As := []) hC dL_law_184 rfl cf_X7_addCase ml_L_22 im_X7_addCase sl_X7_addCase lq_7 rfl rfl hV.1 rfl ⟨Nat.le_of_ble_eq_true rfl, Nat.le_of_ble_eq_true rfl, by show k + 4 + 0 ≤ 600000; omega, by show n + 226 + 0 ≤ 7302250; omega⟩ (csI cs0) (Nat.le_of_ble_eq_true rfl) (con_X7_addCase m  h1 _ hV.2) rfl (kI (k := k + 4 + 0) (n := n + 226 + 0) (fun r2 h2 hW => ?_))
  refine r_icmp_eq (tgt := 879) hC dL_law_187 (by decide) (fun k9 => ?_) (fun k9 => absurd hW.1 k9)
  exact r_wide (k1 := k + 13) (n1 := n + 419) (by omega) (by omega) (kk h2 hW.2)
set_option maxRecDepth 100000 in
set_option maxHeartbeats 4000000 in
theorem lc_2 {E : Ev} {X : Xt} {l0 : Launch} {b L x m t k n : Nat} {xs : Nat → Int32} {h : Hp} (hC : Cx E X l0 RL cL_law 4 room_1) (hS : SX E X b L xs) (h4 : 4 * t + 4 ≤ L) (hL : L ≤ 2048) (I : INV h x m t) (z0 : hK h 0 = 0) (hk : k + 13 ≤ 600000) (hn : n + 419 ≤ 7302250) (kk : ∀ h2, INV h2 x m (t + 1) → WW E X h2 (k + 13) (n + 419) 879 [some (rv (b + 1)), some (rv x), some (rv m), some (.int (nI (4 * t)))] []) : WW E X h k n 192 [some (rv (b + 1)), some (rv x), some (rv m), some (.int (nI (4 * t)))] [] := by
  refine r_aload_n hC dL_law_192 rfl ?_
  refine r_aload_n hC dL_law_193 rfl ?_
  refine r_iload_n hC dL_law_194 rfl ?_
  refine r_iconst (v := 1) hC dL_law_195 (by decide) ?_
  refine r_iadd hC dL_law_196 ?_
  refine r_sld hC hS dL_law_197 (l_in (j := 1) h4 hL (by decide)) ?_
  refine r_aload_n hC dL_law_198 rfl ?_
  refine r_iload_n hC dL_law_199 rfl ?_
  refine r_iconst (v := 2) hC dL_law_200 (by decide) ?_
  refine r_iadd hC dL_law_201 ?_
  refine r_sld hC hS dL_law_202 (l_in (j := 2) h4 hL (by decide)) ?_
  refine r_aload_n hC dL_law_203 rfl ?_
  refine r_iload_n hC dL_law_204 rfl ?_
  refine r_iconst (v := 3) hC dL_law_205 (by decide) ?_
  refine r_iadd hC dL_law_206 ?_
  refine r_sld hC hS dL_law_207 (l_in (j := 3) h4 hL (by decide)) ?_
  refine r_callV (ci := 6) (As := [.int (xs (ix (nI (4 * t) + 1))), .int (xs (ix (nI (4 * t) + 2))), .int (xs (ix (nI (4 * t) + 3)))]) hC dL_law_208 rfl cf_X6_cast ml_L_23 im_X6_cast sl_X6_cast lq_6 rfl rfl I.kx rfl ⟨Nat.le_of_ble_eq_true rfl, Nat.le_of_ble_eq_true rfl, by show k + 4 ≤ 600000; omega, by show n + 226 ≤ 7302250; omega⟩ cs0 (Nat.le_of_ble_eq_true rfl) (con_X6_cast x (xs (ix (nI (4 * t) + 1))) (xs (ix (nI (4 * t) + 2))) (xs (ix (nI (4 * t) + 3))) h _ (sp_cast_ I _ _ _)) rfl (kI (k := k + 4) (n := n + 226) (fun r1 h1 hV => ?_))
  refine r_aload_n hC dL_law_211 rfl ?_
  refine r_aload_n hC dL_law_212 rfl ?_
  refine r_iload_n hC dL_law_213 rfl ?_
  refine r_iconst (v := 1) hC dL_law_214 (by decide) ?_
  refine r_iadd hC dL_law_215 ?_
  refine r_sld hC hS dL_law_216 (l_in (j := 1) h4 hL (by decide)) ?_
  refine r_aload_n hC dL_law_217 rfl ?_
  refine r_iload_n hC dL_law_218 rfl ?_
  refine r_iconst (v := 2) hC dL_law_219 (by decide) ?_
  refine r_iadd hC dL_law_220 ?_
  refine r_sld hC hS dL_law_221 (l_in (j := 2) h4 hL (by decide)) ?_
  refine r_aload_n hC dL_law_222 rfl ?_
  refine r_iload_n hC dL_law_223 rfl ?_
  refine r_iconst (v := 3) hC dL_law_224 (by decide) ?_
  refine r_iadd hC dL_law_225 ?_
  refine r_sld hC hS dL_law_226 (l_in (j := 3) h4 hL (by decide)) ?_
  refine r_callV (ci := 7) (As := [.int (xs (ix (nI (4 * t) + 1))), .int (xs (ix (nI (4 * t) + 2))), .int (xs (ix (nI (4 * t) + 3)))]) hC dL_law_227 rfl cf_X7_cast ml_L_27 im_X7_cast sl_X7_cast lq_7 rfl rfl hV.1 rfl ⟨Nat.le_of_ble_eq_true rfl, Nat.le_of_ble_eq_true rfl, by show k + 4 + 0 ≤ 600000; omega, by show n + 226 + 0 ≤ 7302250; omega⟩ (csI cs0) (Nat.le_of_ble_eq_true rfl) (con_X7_cast m (xs (ix (nI (4 * t) + 1))) (xs (ix (nI (4 * t) + 2))) (xs (ix (nI (4 * t) + 3))) h1 _ hV.2) rfl (kI (k := k + 4 + 0) (n := n + 226 + 0) (fun r2 h2 hW => ?_))
  refine r_icmp_eq (tgt := 879) hC dL_law_230 (by decide) (fun k9 => ?_) (fun k9 => absurd hW.1 k9)
  exact r_wide (k1 := k + 13) (n1 := n + 419) (by omega) (by omega) (kk h2 hW.2)
set_option maxRecDepth 100000 in
set_option maxHeartbeats 4000000 in
theorem lc_3 {E : Ev} {X : Xt} {l0 : Launch} {b L x m t k n : Nat} {xs : Nat → Int32} {h : Hp} (hC : Cx E X l0 RL cL_law 4 room_1) (hS : SX E X b L xs) (h4 : 4 * t + 4 ≤ L) (hL : L ≤ 2048) (I : INV h x m t) (z0 : hK h 0 = 0) (hk : k + 13 ≤ 600000) (hn : n + 419 ≤ 7302250) (kk : ∀ h2, INV h2 x m (t + 1) → WW E X h2 (k + 13) (n + 419) 879 [some (rv (b + 1)), some (rv x), some (rv m), some (.int (nI (4 * t)))] []) : WW E X h k n 235 [some (rv (b + 1)), some (rv x), some (rv m), some (.int (nI (4 * t)))] [] := by
  refine r_aload_n hC dL_law_235 rfl ?_
  refine r_aload_n hC dL_law_236 rfl ?_
  refine r_iload_n hC dL_law_237 rfl ?_
  refine r_iconst (v := 1) hC dL_law_238 (by decide) ?_
  refine r_iadd hC dL_law_239 ?_
  refine r_sld hC hS dL_law_240 (l_in (j := 1) h4 hL (by decide)) ?_
  refine r_aload_n hC dL_law_241 rfl ?_
  refine r_iload_n hC dL_law_242 rfl ?_
  refine r_iconst (v := 2) hC dL_law_243 (by decide) ?_
  refine r_iadd hC dL_law_244 ?_
  refine r_sld hC hS dL_law_245 (l_in (j := 2) h4 hL (by decide)) ?_
  refine r_callV (ci := 6) (As := [.int (xs (ix (nI (4 * t) + 1))), .int (xs (ix (nI (4 * t) + 2)))]) hC dL_law_246 rfl cf_X6_castFount ml_L_28 im_X6_castFount sl_X6_castFount lq_6 rfl rfl I.kx rfl ⟨Nat.le_of_ble_eq_true rfl, Nat.le_of_ble_eq_true rfl, by show k + 4 ≤ 600000; omega, by show n + 226 ≤ 7302250; omega⟩ cs0 (Nat.le_of_ble_eq_true rfl) (con_X6_castFount x (xs (ix (nI (4 * t) + 1))) (xs (ix (nI (4 * t) + 2))) h _ (sp_castFount_ I _ _)) rfl (kI (k := k + 4) (n := n + 226) (fun r1 h1 hV => ?_))
  refine r_aload_n hC dL_law_249 rfl ?_
  refine r_aload_n hC dL_law_250 rfl ?_
  refine r_iload_n hC dL_law_251 rfl ?_
  refine r_iconst (v := 1) hC dL_law_252 (by decide) ?_
  refine r_iadd hC dL_law_253 ?_
  refine r_sld hC hS dL_law_254 (l_in (j := 1) h4 hL (by decide)) ?_
  refine r_aload_n hC dL_law_255 rfl ?_
  refine r_iload_n hC dL_law_256 rfl ?_
  refine r_iconst (v := 2) hC dL_law_257 (by decide) ?_
  refine r_iadd hC dL_law_258 ?_
  refine r_sld hC hS dL_law_259 (l_in (j := 2) h4 hL (by decide)) ?_
  refine r_callV (ci := 7) (As := [.int (xs (ix (nI (4 * t) + 1))), .int (xs (ix (nI (4 * t) + 2)))]) hC dL_law_260 rfl cf_X7_castFount ml_L_32 im_X7_castFount sl_X7_castFount lq_7 rfl rfl hV.1 rfl ⟨Nat.le_of_ble_eq_true rfl, Nat.le_of_ble_eq_true rfl, by show k + 4 + 0 ≤ 600000; omega, by show n + 226 + 0 ≤ 7302250; omega⟩ (csI cs0) (Nat.le_of_ble_eq_true rfl) (con_X7_castFount m (xs (ix (nI (4 * t) + 1))) (xs (ix (nI (4 * t) + 2))) h1 _ hV.2) rfl (kI (k := k + 4 + 0) (n := n + 226 + 0) (fun r2 h2 hW => ?_))
  refine r_icmp_eq (tgt := 879) hC dL_law_263 (by decide) (fun k9 => ?_) (fun k9 => absurd hW.1 k9)
  exact r_wide (k1 := k + 13) (n1 := n + 419) (by omega) (by omega) (kk h2 hW.2)
set_option maxRecDepth 100000 in
set_option maxHeartbeats 4000000 in
theorem lc_4 {E : Ev} {X : Xt} {l0 : Launch} {b L x m t k n : Nat} {xs : Nat → Int32} {h : Hp} (hC : Cx E X l0 RL cL_law 4 room_1) (hS : SX E X b L xs) (h4 : 4 * t + 4 ≤ L) (hL : L ≤ 2048) (I : INV h x m t) (z0 : hK h 0 = 0) (hk : k + 13 ≤ 600000) (hn : n + 419 ≤ 7302250) (kk : ∀ h2, INV h2 x m (t + 1) → WW E X h2 (k + 13) (n + 419) 879 [some (rv (b + 1)), some (rv x), some (rv m), some (.int (nI (4 * t)))] []) : WW E X h k n 268 [some (rv (b + 1)), some (rv x), some (rv m), some (.int (nI (4 * t)))] [] := by
  refine r_aload_n hC dL_law_268 rfl ?_
  refine r_aload_n hC dL_law_269 rfl ?_
  refine r_iload_n hC dL_law_270 rfl ?_
  refine r_iconst (v := 1) hC dL_law_271 (by decide) ?_
  refine r_iadd hC dL_law_272 ?_
  refine r_sld hC hS dL_law_273 (l_in (j := 1) h4 hL (by decide)) ?_
  refine r_aload_n hC dL_law_274 rfl ?_
  refine r_iload_n hC dL_law_275 rfl ?_
  refine r_iconst (v := 2) hC dL_law_276 (by decide) ?_
  refine r_iadd hC dL_law_277 ?_
  refine r_sld hC hS dL_law_278 (l_in (j := 2) h4 hL (by decide)) ?_
  refine r_aload_n hC dL_law_279 rfl ?_
  refine r_iload_n hC dL_law_280 rfl ?_
  refine r_iconst (v := 3) hC dL_law_281 (by decide) ?_
  refine r_iadd hC dL_law_282 ?_
  refine r_sld hC hS dL_law_283 (l_in (j := 3) h4 hL (by decide)) ?_
  refine r_callV (ci := 6) (As := [.int (xs (ix (nI (4 * t) + 1))), .int (xs (ix (nI (4 * t) + 2))), .int (xs (ix (nI (4 * t) + 3)))]) hC dL_law_284 rfl cf_X6_melt ml_L_33 im_X6_melt sl_X6_melt lq_6 rfl rfl I.kx rfl ⟨Nat.le_of_ble_eq_true rfl, Nat.le_of_ble_eq_true rfl, by show k + 4 ≤ 600000; omega, by show n + 226 ≤ 7302250; omega⟩ cs0 (Nat.le_of_ble_eq_true rfl) (con_X6_melt x (xs (ix (nI (4 * t) + 1))) (xs (ix (nI (4 * t) + 2))) (xs (ix (nI (4 * t) + 3))) h _ (sp_melt_ I _ _ _)) rfl (kI (k := k + 4) (n := n + 226) (fun r1 h1 hV => ?_))
  refine r_aload_n hC dL_law_287 rfl ?_
  refine r_aload_n hC dL_law_288 rfl ?_
  refine r_iload_n hC dL_law_289 rfl ?_
  refine r_iconst (v := 1) hC dL_law_290 (by decide) ?_
  refine r_iadd hC dL_law_291 ?_
  refine r_sld hC hS dL_law_292 (l_in (j := 1) h4 hL (by decide)) ?_
  refine r_aload_n hC dL_law_293 rfl ?_
  refine r_iload_n hC dL_law_294 rfl ?_
  refine r_iconst (v := 2) hC dL_law_295 (by decide) ?_
  refine r_iadd hC dL_law_296 ?_
  refine r_sld hC hS dL_law_297 (l_in (j := 2) h4 hL (by decide)) ?_
  refine r_aload_n hC dL_law_298 rfl ?_
  refine r_iload_n hC dL_law_299 rfl ?_
  refine r_iconst (v := 3) hC dL_law_300 (by decide) ?_
  refine r_iadd hC dL_law_301 ?_
  refine r_sld hC hS dL_law_302 (l_in (j := 3) h4 hL (by decide)) ?_
  refine r_callV (ci := 7) (As := [.int (xs (ix (nI (4 * t) + 1))), .int (xs (ix (nI (4 * t) + 2))), .int (xs (ix (nI (4 * t) + 3)))]) hC dL_law_303 rfl cf_X7_melt ml_L_36 im_X7_melt sl_X7_melt lq_7 rfl rfl hV.1 rfl ⟨Nat.le_of_ble_eq_true rfl, Nat.le_of_ble_eq_true rfl, by show k + 4 + 0 ≤ 600000; omega, by show n + 226 + 0 ≤ 7302250; omega⟩ (csI cs0) (Nat.le_of_ble_eq_true rfl) (con_X7_melt m (xs (ix (nI (4 * t) + 1))) (xs (ix (nI (4 * t) + 2))) (xs (ix (nI (4 * t) + 3))) h1 _ hV.2) rfl (kI (k := k + 4 + 0) (n := n + 226 + 0) (fun r2 h2 hW => ?_))
  refine r_icmp_eq (tgt := 879) hC dL_law_306 (by decide) (fun k9 => ?_) (fun k9 => absurd hW.1 k9)
  exact r_wide (k1 := k + 13) (n1 := n + 419) (by omega) (by omega) (kk h2 hW.2)
set_option maxRecDepth 100000 in
set_option maxHeartbeats 4000000 in
theorem lc_5 {E : Ev} {X : Xt} {l0 : Launch} {b L x m t k n : Nat} {xs : Nat → Int32} {h : Hp} (hC : Cx E X l0 RL cL_law 4 room_1) (hS : SX E X b L xs) (h4 : 4 * t + 4 ≤ L) (hL : L ≤ 2048) (I : INV h x m t) (z0 : hK h 0 = 0) (hk : k + 13 ≤ 600000) (hn : n + 419 ≤ 7302250) (kk : ∀ h2, INV h2 x m (t + 1) → WW E X h2 (k + 13) (n + 419) 879 [some (rv (b + 1)), some (rv x), some (rv m), some (.int (nI (4 * t)))] []) : WW E X h k n 311 [some (rv (b + 1)), some (rv x), some (rv m), some (.int (nI (4 * t)))] [] := by
  refine r_aload_n hC dL_law_311 rfl ?_
  refine r_callV (ci := 6) (As := []) hC dL_law_312 rfl cf_X6_meltBox ml_L_37 im_X6_meltBox sl_X6_meltBox lq_6 rfl rfl I.kx rfl ⟨Nat.le_of_ble_eq_true rfl, Nat.le_of_ble_eq_true rfl, by show k + 4 ≤ 600000; omega, by show n + 226 ≤ 7302250; omega⟩ cs0 (Nat.le_of_ble_eq_true rfl) (con_X6_meltBox x  h _ (sp_meltBox_ I)) rfl (kI (k := k + 4) (n := n + 226) (fun r1 h1 hV => ?_))
  refine r_aload_n hC dL_law_315 rfl ?_
  refine r_callV (ci := 7) (As := []) hC dL_law_316 rfl cf_X7_meltBox ml_L_40 im_X7_meltBox sl_X7_meltBox lq_7 rfl rfl hV.1 rfl ⟨Nat.le_of_ble_eq_true rfl, Nat.le_of_ble_eq_true rfl, by show k + 4 + 0 ≤ 600000; omega, by show n + 226 + 0 ≤ 7302250; omega⟩ (csI cs0) (Nat.le_of_ble_eq_true rfl) (con_X7_meltBox m  h1 _ hV.2) rfl (kI (k := k + 4 + 0) (n := n + 226 + 0) (fun r2 h2 hW => ?_))
  refine r_icmp_eq (tgt := 879) hC dL_law_319 (by decide) (fun k9 => ?_) (fun k9 => absurd hW.1 k9)
  exact r_wide (k1 := k + 13) (n1 := n + 419) (by omega) (by omega) (kk h2 hW.2)
set_option maxRecDepth 100000 in
set_option maxHeartbeats 4000000 in
theorem lc_6 {E : Ev} {X : Xt} {l0 : Launch} {b L x m t k n : Nat} {xs : Nat → Int32} {h : Hp} (hC : Cx E X l0 RL cL_law 4 room_1) (hS : SX E X b L xs) (h4 : 4 * t + 4 ≤ L) (hL : L ≤ 2048) (I : INV h x m t) (z0 : hK h 0 = 0) (hk : k + 13 ≤ 600000) (hn : n + 419 ≤ 7302250) (kk : ∀ h2, INV h2 x m (t + 1) → WW E X h2 (k + 13) (n + 419) 879 [some (rv (b + 1)), some (rv x), some (rv m), some (.int (nI (4 * t)))] []) : WW E X h k n 324 [some (rv (b + 1)), some (rv x), some (rv m), some (.int (nI (4 * t)))] [] := by
  refine r_aload_n hC dL_law_324 rfl ?_
  refine r_aload_n hC dL_law_325 rfl ?_
  refine r_iload_n hC dL_law_326 rfl ?_
  refine r_iconst (v := 1) hC dL_law_327 (by decide) ?_
  refine r_iadd hC dL_law_328 ?_
  refine r_sld hC hS dL_law_329 (l_in (j := 1) h4 hL (by decide)) ?_
  refine r_i2c hC dL_law_330 ?_
  refine r_callV (ci := 6) (As := [.int (cn (xs (ix (nI (4 * t) + 1))))]) hC dL_law_331 rfl cf_X6_type ml_L_41 im_X6_type sl_X6_type lq_6 rfl rfl I.kx rfl ⟨Nat.le_of_ble_eq_true rfl, Nat.le_of_ble_eq_true rfl, by show k + 0 ≤ 600000; omega, by show n + 0 ≤ 7302250; omega⟩ cs0 (Nat.le_of_ble_eq_true rfl) (con_X6_type x (cn (xs (ix (nI (4 * t) + 1)))) h _ (sp_type_ I _)) rfl (kI (k := k + 0) (n := n + 0) (fun r1 h1 hV => ?_))
  refine r_aload_n hC dL_law_334 rfl ?_
  refine r_aload_n hC dL_law_335 rfl ?_
  refine r_iload_n hC dL_law_336 rfl ?_
  refine r_iconst (v := 1) hC dL_law_337 (by decide) ?_
  refine r_iadd hC dL_law_338 ?_
  refine r_sld hC hS dL_law_339 (l_in (j := 1) h4 hL (by decide)) ?_
  refine r_i2c hC dL_law_340 ?_
  refine r_callV (ci := 7) (As := [.int (cn (xs (ix (nI (4 * t) + 1))))]) hC dL_law_341 rfl cf_X7_type ml_L_45 im_X7_type sl_X7_type lq_7 rfl rfl hV.1 rfl ⟨Nat.le_of_ble_eq_true rfl, Nat.le_of_ble_eq_true rfl, by show k + 0 + 0 ≤ 600000; omega, by show n + 0 + 0 ≤ 7302250; omega⟩ (csI cs0) (Nat.le_of_ble_eq_true rfl) (con_X7_type m (cn (xs (ix (nI (4 * t) + 1)))) h1 _ hV.2) rfl (kI (k := k + 0 + 0) (n := n + 0 + 0) (fun r2 h2 hW => ?_))
  refine r_icmp_eq (tgt := 879) hC dL_law_344 (by decide) (fun k9 => ?_) (fun k9 => absurd hW.1 k9)
  exact r_wide (k1 := k + 13) (n1 := n + 419) (by omega) (by omega) (kk h2 hW.2)
set_option maxRecDepth 100000 in
set_option maxHeartbeats 4000000 in
theorem lc_7 {E : Ev} {X : Xt} {l0 : Launch} {b L x m t k n : Nat} {xs : Nat → Int32} {h : Hp} (hC : Cx E X l0 RL cL_law 4 room_1) (hS : SX E X b L xs) (h4 : 4 * t + 4 ≤ L) (hL : L ≤ 2048) (I : INV h x m t) (z0 : hK h 0 = 0) (hk : k + 13 ≤ 600000) (hn : n + 419 ≤ 7302250) (kk : ∀ h2, INV h2 x m (t + 1) → WW E X h2 (k + 13) (n + 419) 879 [some (rv (b + 1)), some (rv x), some (rv m), some (.int (nI (4 * t)))] []) : WW E X h k n 349 [some (rv (b + 1)), some (rv x), some (rv m), some (.int (nI (4 * t)))] [] := by
  refine r_aload_n hC dL_law_349 rfl ?_
  refine r_callV (ci := 6) (As := []) hC dL_law_350 rfl cf_X6_clearText ml_L_46 im_X6_clearText sl_X6_clearText lq_6 rfl rfl I.kx rfl ⟨Nat.le_of_ble_eq_true rfl, Nat.le_of_ble_eq_true rfl, by show k + 0 ≤ 600000; omega, by show n + 0 ≤ 7302250; omega⟩ cs0 (Nat.le_of_ble_eq_true rfl) (con_X6_clearText x  h _ (sp_clear_ I)) rfl (kI (k := k + 0) (n := n + 0) (fun r1 h1 hV => ?_))
  refine r_aload_n hC dL_law_353 rfl ?_
  refine r_callV (ci := 7) (As := []) hC dL_law_354 rfl cf_X7_clearText ml_L_49 im_X7_clearText sl_X7_clearText lq_7 rfl rfl hV.1 rfl ⟨Nat.le_of_ble_eq_true rfl, Nat.le_of_ble_eq_true rfl, by show k + 0 + 0 ≤ 600000; omega, by show n + 0 + 0 ≤ 7302250; omega⟩ (csI cs0) (Nat.le_of_ble_eq_true rfl) (con_X7_clearText m  h1 _ hV.2) rfl (kI (k := k + 0 + 0) (n := n + 0 + 0) (fun r2 h2 hW => ?_))
  refine r_icmp_eq (tgt := 879) hC dL_law_357 (by decide) (fun k9 => ?_) (fun k9 => absurd hW.1 k9)
  exact r_wide (k1 := k + 13) (n1 := n + 419) (by omega) (by omega) (kk h2 hW.2)
set_option maxRecDepth 100000 in
set_option maxHeartbeats 4000000 in
theorem lc_8 {E : Ev} {X : Xt} {l0 : Launch} {b L x m t k n : Nat} {xs : Nat → Int32} {h : Hp} (hC : Cx E X l0 RL cL_law 4 room_1) (hS : SX E X b L xs) (h4 : 4 * t + 4 ≤ L) (hL : L ≤ 2048) (I : INV h x m t) (z0 : hK h 0 = 0) (hk : k + 13 ≤ 600000) (hn : n + 419 ≤ 7302250) (kk : ∀ h2, INV h2 x m (t + 1) → WW E X h2 (k + 13) (n + 419) 879 [some (rv (b + 1)), some (rv x), some (rv m), some (.int (nI (4 * t)))] []) : WW E X h k n 362 [some (rv (b + 1)), some (rv x), some (rv m), some (.int (nI (4 * t)))] [] := by
  refine r_aload_n hC dL_law_362 rfl ?_
  refine r_aload_n hC dL_law_363 rfl ?_
  refine r_iload_n hC dL_law_364 rfl ?_
  refine r_iconst (v := 1) hC dL_law_365 (by decide) ?_
  refine r_iadd hC dL_law_366 ?_
  refine r_sld hC hS dL_law_367 (l_in (j := 1) h4 hL (by decide)) ?_
  refine r_aload_n hC dL_law_368 rfl ?_
  refine r_iload_n hC dL_law_369 rfl ?_
  refine r_iconst (v := 2) hC dL_law_370 (by decide) ?_
  refine r_iadd hC dL_law_371 ?_
  refine r_sld hC hS dL_law_372 (l_in (j := 2) h4 hL (by decide)) ?_
  refine r_aload_n hC dL_law_373 rfl ?_
  refine r_iload_n hC dL_law_374 rfl ?_
  refine r_iconst (v := 3) hC dL_law_375 (by decide) ?_
  refine r_iadd hC dL_law_376 ?_
  refine r_sld hC hS dL_law_377 (l_in (j := 3) h4 hL (by decide)) ?_
  refine r_callV (ci := 6) (As := [.int (xs (ix (nI (4 * t) + 1))), .int (xs (ix (nI (4 * t) + 2))), .int (xs (ix (nI (4 * t) + 3)))]) hC dL_law_378 rfl cf_X6_order ml_L_50 im_X6_order sl_X6_order lq_6 rfl rfl I.kx rfl ⟨Nat.le_of_ble_eq_true rfl, Nat.le_of_ble_eq_true rfl, by show k + 13 ≤ 600000; omega, by show n + 419 ≤ 7302250; omega⟩ cs0 (Nat.le_of_ble_eq_true rfl) (con_X6_order x (xs (ix (nI (4 * t) + 1))) (xs (ix (nI (4 * t) + 2))) (xs (ix (nI (4 * t) + 3))) h _ (sp_order_ I _ _ _)) rfl (kI (k := k + 13) (n := n + 419) (fun r1 h1 hV => ?_))
  refine r_aload_n hC dL_law_381 rfl ?_
  refine r_aload_n hC dL_law_382 rfl ?_
  refine r_iload_n hC dL_law_383 rfl ?_
  refine r_iconst (v := 1) hC dL_law_384 (by decide) ?_
  refine r_iadd hC dL_law_385 ?_
  refine r_sld hC hS dL_law_386 (l_in (j := 1) h4 hL (by decide)) ?_
  refine r_aload_n hC dL_law_387 rfl ?_
  refine r_iload_n hC dL_law_388 rfl ?_
  refine r_iconst (v := 2) hC dL_law_389 (by decide) ?_
  refine r_iadd hC dL_law_390 ?_
  refine r_sld hC hS dL_law_391 (l_in (j := 2) h4 hL (by decide)) ?_
  refine r_aload_n hC dL_law_392 rfl ?_
  refine r_iload_n hC dL_law_393 rfl ?_
  refine r_iconst (v := 3) hC dL_law_394 (by decide) ?_
  refine r_iadd hC dL_law_395 ?_
  refine r_sld hC hS dL_law_396 (l_in (j := 3) h4 hL (by decide)) ?_
  refine r_callV (ci := 7) (As := [.int (xs (ix (nI (4 * t) + 1))), .int (xs (ix (nI (4 * t) + 2))), .int (xs (ix (nI (4 * t) + 3)))]) hC dL_law_397 rfl cf_X7_order ml_L_53 im_X7_order sl_X7_order lq_7 rfl rfl hV.1 rfl ⟨Nat.le_of_ble_eq_true rfl, Nat.le_of_ble_eq_true rfl, by show k + 13 + 0 ≤ 600000; omega, by show n + 419 + 0 ≤ 7302250; omega⟩ (csI cs0) (Nat.le_of_ble_eq_true rfl) (con_X7_order m (xs (ix (nI (4 * t) + 1))) (xs (ix (nI (4 * t) + 2))) (xs (ix (nI (4 * t) + 3))) h1 _ hV.2) rfl (kI (k := k + 13 + 0) (n := n + 419 + 0) (fun r2 h2 hW => ?_))
  refine r_icmp_eq (tgt := 879) hC dL_law_400 (by decide) (fun k9 => ?_) (fun k9 => absurd hW.1 k9)
  exact r_wide (k1 := k + 13) (n1 := n + 419) (by omega) (by omega) (kk h2 hW.2)
set_option maxRecDepth 100000 in
set_option maxHeartbeats 4000000 in
theorem lc_9 {E : Ev} {X : Xt} {l0 : Launch} {b L x m t k n : Nat} {xs : Nat → Int32} {h : Hp} (hC : Cx E X l0 RL cL_law 4 room_1) (hS : SX E X b L xs) (h4 : 4 * t + 4 ≤ L) (hL : L ≤ 2048) (I : INV h x m t) (z0 : hK h 0 = 0) (hk : k + 13 ≤ 600000) (hn : n + 419 ≤ 7302250) (kk : ∀ h2, INV h2 x m (t + 1) → WW E X h2 (k + 13) (n + 419) 879 [some (rv (b + 1)), some (rv x), some (rv m), some (.int (nI (4 * t)))] []) : WW E X h k n 405 [some (rv (b + 1)), some (rv x), some (rv m), some (.int (nI (4 * t)))] [] := by
  refine r_aload_n hC dL_law_405 rfl ?_
  refine r_aload_n hC dL_law_406 rfl ?_
  refine r_iload_n hC dL_law_407 rfl ?_
  refine r_iconst (v := 1) hC dL_law_408 (by decide) ?_
  refine r_iadd hC dL_law_409 ?_
  refine r_sld hC hS dL_law_410 (l_in (j := 1) h4 hL (by decide)) ?_
  refine r_callV (ci := 6) (As := [.int (xs (ix (nI (4 * t) + 1)))]) hC dL_law_411 rfl cf_X6_set ml_L_54 im_X6_set sl_X6_set lq_6 rfl rfl I.kx rfl ⟨Nat.le_of_ble_eq_true rfl, Nat.le_of_ble_eq_true rfl, by show k + 6 ≤ 600000; omega, by show n + 404 ≤ 7302250; omega⟩ cs0 (Nat.le_of_ble_eq_true rfl) (con_X6_set x (xs (ix (nI (4 * t) + 1))) h _ (sp_set_ I _)) rfl (kI (k := k + 6) (n := n + 404) (fun r1 h1 hV => ?_))
  refine r_aload_n hC dL_law_414 rfl ?_
  refine r_aload_n hC dL_law_415 rfl ?_
  refine r_iload_n hC dL_law_416 rfl ?_
  refine r_iconst (v := 1) hC dL_law_417 (by decide) ?_
  refine r_iadd hC dL_law_418 ?_
  refine r_sld hC hS dL_law_419 (l_in (j := 1) h4 hL (by decide)) ?_
  refine r_callV (ci := 7) (As := [.int (xs (ix (nI (4 * t) + 1)))]) hC dL_law_420 rfl cf_X7_set ml_L_57 im_X7_set sl_X7_set lq_7 rfl rfl hV.1 rfl ⟨Nat.le_of_ble_eq_true rfl, Nat.le_of_ble_eq_true rfl, by show k + 6 + 0 ≤ 600000; omega, by show n + 404 + 0 ≤ 7302250; omega⟩ (csI cs0) (Nat.le_of_ble_eq_true rfl) (con_X7_set m (xs (ix (nI (4 * t) + 1))) h1 _ hV.2) rfl (kI (k := k + 6 + 0) (n := n + 404 + 0) (fun r2 h2 hW => ?_))
  refine r_icmp_eq (tgt := 879) hC dL_law_423 (by decide) (fun k9 => ?_) (fun k9 => absurd hW.1 k9)
  exact r_wide (k1 := k + 13) (n1 := n + 419) (by omega) (by omega) (kk h2 hW.2)
set_option maxRecDepth 100000 in
set_option maxHeartbeats 4000000 in
theorem lc_10 {E : Ev} {X : Xt} {l0 : Launch} {b L x m t k n : Nat} {xs : Nat → Int32} {h : Hp} (hC : Cx E X l0 RL cL_law 4 room_1) (hS : SX E X b L xs) (h4 : 4 * t + 4 ≤ L) (hL : L ≤ 2048) (I : INV h x m t) (z0 : hK h 0 = 0) (hk : k + 13 ≤ 600000) (hn : n + 419 ≤ 7302250) (kk : ∀ h2, INV h2 x m (t + 1) → WW E X h2 (k + 13) (n + 419) 879 [some (rv (b + 1)), some (rv x), some (rv m), some (.int (nI (4 * t)))] []) : WW E X h k n 428 [some (rv (b + 1)), some (rv x), some (rv m), some (.int (nI (4 * t)))] [] := by
  refine r_aload_n hC dL_law_428 rfl ?_
  refine r_aload_n hC dL_law_429 rfl ?_
  refine r_iload_n hC dL_law_430 rfl ?_
  refine r_iconst (v := 1) hC dL_law_431 (by decide) ?_
  refine r_iadd hC dL_law_432 ?_
  refine r_sld hC hS dL_law_433 (l_in (j := 1) h4 hL (by decide)) ?_
  refine r_callV (ci := 6) (As := [.int (xs (ix (nI (4 * t) + 1)))]) hC dL_law_434 rfl cf_X6_castMissing ml_L_58 im_X6_castMissing sl_X6_castMissing lq_6 rfl rfl I.kx rfl ⟨Nat.le_of_ble_eq_true rfl, Nat.le_of_ble_eq_true rfl, by show k + 4 ≤ 600000; omega, by show n + 226 ≤ 7302250; omega⟩ cs0 (Nat.le_of_ble_eq_true rfl) (con_X6_castMissing x (xs (ix (nI (4 * t) + 1))) h _ (sp_castMissing_ I _)) rfl (kI (k := k + 4) (n := n + 226) (fun r1 h1 hV => ?_))
  refine r_aload_n hC dL_law_437 rfl ?_
  refine r_aload_n hC dL_law_438 rfl ?_
  refine r_iload_n hC dL_law_439 rfl ?_
  refine r_iconst (v := 1) hC dL_law_440 (by decide) ?_
  refine r_iadd hC dL_law_441 ?_
  refine r_sld hC hS dL_law_442 (l_in (j := 1) h4 hL (by decide)) ?_
  refine r_callV (ci := 7) (As := [.int (xs (ix (nI (4 * t) + 1)))]) hC dL_law_443 rfl cf_X7_castMissing ml_L_61 im_X7_castMissing sl_X7_castMissing lq_7 rfl rfl hV.1 rfl ⟨Nat.le_of_ble_eq_true rfl, Nat.le_of_ble_eq_true rfl, by show k + 4 + 0 ≤ 600000; omega, by show n + 226 + 0 ≤ 7302250; omega⟩ (csI cs0) (Nat.le_of_ble_eq_true rfl) (con_X7_castMissing m (xs (ix (nI (4 * t) + 1))) h1 _ hV.2) rfl (kI (k := k + 4 + 0) (n := n + 226 + 0) (fun r2 h2 hW => ?_))
  refine r_icmp_eq (tgt := 879) hC dL_law_446 (by decide) (fun k9 => ?_) (fun k9 => absurd hW.1 k9)
  exact r_wide (k1 := k + 13) (n1 := n + 419) (by omega) (by omega) (kk h2 hW.2)
set_option maxRecDepth 100000 in
set_option maxHeartbeats 4000000 in
theorem lc_11 {E : Ev} {X : Xt} {l0 : Launch} {b L x m t k n : Nat} {xs : Nat → Int32} {h : Hp} (hC : Cx E X l0 RL cL_law 4 room_1) (hS : SX E X b L xs) (h4 : 4 * t + 4 ≤ L) (hL : L ≤ 2048) (I : INV h x m t) (z0 : hK h 0 = 0) (hk : k + 13 ≤ 600000) (hn : n + 419 ≤ 7302250) (kk : ∀ h2, INV h2 x m (t + 1) → WW E X h2 (k + 13) (n + 419) 879 [some (rv (b + 1)), some (rv x), some (rv m), some (.int (nI (4 * t)))] []) : WW E X h k n 451 [some (rv (b + 1)), some (rv x), some (rv m), some (.int (nI (4 * t)))] [] := by
  refine r_aload_n hC dL_law_451 rfl ?_
  refine r_aload_n hC dL_law_452 rfl ?_
  refine r_iload_n hC dL_law_453 rfl ?_
  refine r_iconst (v := 1) hC dL_law_454 (by decide) ?_
  refine r_iadd hC dL_law_455 ?_
  refine r_sld hC hS dL_law_456 (l_in (j := 1) h4 hL (by decide)) ?_
  refine r_callV (ci := 6) (As := [.int (xs (ix (nI (4 * t) + 1)))]) hC dL_law_457 rfl cf_X6_print ml_L_62 im_X6_print sl_X6_print lq_6 rfl rfl I.kx rfl ⟨Nat.le_of_ble_eq_true rfl, Nat.le_of_ble_eq_true rfl, by show k + 5 ≤ 600000; omega, by show n + 230 ≤ 7302250; omega⟩ cs0 (Nat.le_of_ble_eq_true rfl) (con_X6_print x (xs (ix (nI (4 * t) + 1))) h _ (sp_print_ I (by omega) _)) rfl (kI (k := k + 5) (n := n + 230) (fun r1 h1 hV => ?_))
  refine r_aload_n hC dL_law_460 rfl ?_
  refine r_aload_n hC dL_law_461 rfl ?_
  refine r_iload_n hC dL_law_462 rfl ?_
  refine r_iconst (v := 1) hC dL_law_463 (by decide) ?_
  refine r_iadd hC dL_law_464 ?_
  refine r_sld hC hS dL_law_465 (l_in (j := 1) h4 hL (by decide)) ?_
  refine r_callV (ci := 7) (As := [.int (xs (ix (nI (4 * t) + 1)))]) hC dL_law_466 rfl cf_X7_print ml_L_65 im_X7_print sl_X7_print lq_7 rfl rfl hV.1 rfl ⟨Nat.le_of_ble_eq_true rfl, Nat.le_of_ble_eq_true rfl, by show k + 5 + 0 ≤ 600000; omega, by show n + 230 + 0 ≤ 7302250; omega⟩ (csI cs0) (Nat.le_of_ble_eq_true rfl) (con_X7_print m (xs (ix (nI (4 * t) + 1))) h1 _ hV.2) rfl (kI (k := k + 5 + 0) (n := n + 230 + 0) (fun r2 h2 hW => ?_))
  refine r_icmp_eq (tgt := 879) hC dL_law_469 (by decide) (fun k9 => ?_) (fun k9 => absurd hW.1 k9)
  exact r_wide (k1 := k + 13) (n1 := n + 419) (by omega) (by omega) (kk h2 hW.2)
set_option maxRecDepth 100000 in
set_option maxHeartbeats 4000000 in
theorem lc_12 {E : Ev} {X : Xt} {l0 : Launch} {b L x m t k n : Nat} {xs : Nat → Int32} {h : Hp} (hC : Cx E X l0 RL cL_law 4 room_1) (hS : SX E X b L xs) (h4 : 4 * t + 4 ≤ L) (hL : L ≤ 2048) (I : INV h x m t) (z0 : hK h 0 = 0) (hk : k + 13 ≤ 600000) (hn : n + 419 ≤ 7302250) (kk : ∀ h2, INV h2 x m (t + 1) → WW E X h2 (k + 13) (n + 419) 879 [some (rv (b + 1)), some (rv x), some (rv m), some (.int (nI (4 * t)))] []) : WW E X h k n 474 [some (rv (b + 1)), some (rv x), some (rv m), some (.int (nI (4 * t)))] [] := by
  refine r_aload_n hC dL_law_474 rfl ?_
  refine r_aload_n hC dL_law_475 rfl ?_
  refine r_iload_n hC dL_law_476 rfl ?_
  refine r_iconst (v := 1) hC dL_law_477 (by decide) ?_
  refine r_iadd hC dL_law_478 ?_
  refine r_sld hC hS dL_law_479 (l_in (j := 1) h4 hL (by decide)) ?_
  refine r_callV (ci := 6) (As := [.int (xs (ix (nI (4 * t) + 1)))]) hC dL_law_480 rfl cf_X6_distribute ml_L_66 im_X6_distribute sl_X6_distribute lq_6 rfl rfl I.kx rfl ⟨Nat.le_of_ble_eq_true rfl, Nat.le_of_ble_eq_true rfl, by show k + 6 ≤ 600000; omega, by show n + 230 ≤ 7302250; omega⟩ cs0 (Nat.le_of_ble_eq_true rfl) (con_X6_distribute x (xs (ix (nI (4 * t) + 1))) h _ (sp_distribute_ I _)) rfl (kI (k := k + 6) (n := n + 230) (fun r1 h1 hV => ?_))
  refine r_aload_n hC dL_law_483 rfl ?_
  refine r_aload_n hC dL_law_484 rfl ?_
  refine r_iload_n hC dL_law_485 rfl ?_
  refine r_iconst (v := 1) hC dL_law_486 (by decide) ?_
  refine r_iadd hC dL_law_487 ?_
  refine r_sld hC hS dL_law_488 (l_in (j := 1) h4 hL (by decide)) ?_
  refine r_callV (ci := 7) (As := [.int (xs (ix (nI (4 * t) + 1)))]) hC dL_law_489 rfl cf_X7_distribute ml_L_69 im_X7_distribute sl_X7_distribute lq_7 rfl rfl hV.1 rfl ⟨Nat.le_of_ble_eq_true rfl, Nat.le_of_ble_eq_true rfl, by show k + 6 + 0 ≤ 600000; omega, by show n + 230 + 0 ≤ 7302250; omega⟩ (csI cs0) (Nat.le_of_ble_eq_true rfl) (con_X7_distribute m (xs (ix (nI (4 * t) + 1))) h1 _ hV.2) rfl (kI (k := k + 6 + 0) (n := n + 230 + 0) (fun r2 h2 hW => ?_))
  refine r_icmp_eq (tgt := 879) hC dL_law_492 (by decide) (fun k9 => ?_) (fun k9 => absurd hW.1 k9)
  exact r_wide (k1 := k + 13) (n1 := n + 419) (by omega) (by omega) (kk h2 hW.2)
set_option maxRecDepth 100000 in
set_option maxHeartbeats 4000000 in
theorem lc_13 {E : Ev} {X : Xt} {l0 : Launch} {b L x m t k n : Nat} {xs : Nat → Int32} {h : Hp} (hC : Cx E X l0 RL cL_law 4 room_1) (hS : SX E X b L xs) (h4 : 4 * t + 4 ≤ L) (hL : L ≤ 2048) (I : INV h x m t) (z0 : hK h 0 = 0) (hk : k + 13 ≤ 600000) (hn : n + 419 ≤ 7302250) (kk : ∀ h2, INV h2 x m (t + 1) → WW E X h2 (k + 13) (n + 419) 879 [some (rv (b + 1)), some (rv x), some (rv m), some (.int (nI (4 * t)))] []) : WW E X h k n 497 [some (rv (b + 1)), some (rv x), some (rv m), some (.int (nI (4 * t)))] [] := by
  refine r_aload_n hC dL_law_497 rfl ?_
  refine r_aload_n hC dL_law_498 rfl ?_
  refine r_iload_n hC dL_law_499 rfl ?_
  refine r_iconst (v := 1) hC dL_law_500 (by decide) ?_
  refine r_iadd hC dL_law_501 ?_
  refine r_sld hC hS dL_law_502 (l_in (j := 1) h4 hL (by decide)) ?_
  refine r_callV (ci := 6) (As := [.int (xs (ix (nI (4 * t) + 1)))]) hC dL_law_503 rfl cf_X6_cancel ml_L_70 im_X6_cancel sl_X6_cancel lq_6 rfl rfl I.kx rfl ⟨Nat.le_of_ble_eq_true rfl, Nat.le_of_ble_eq_true rfl, by show k + 6 ≤ 600000; omega, by show n + 230 ≤ 7302250; omega⟩ cs0 (Nat.le_of_ble_eq_true rfl) (con_X6_cancel x (xs (ix (nI (4 * t) + 1))) h _ (sp_cancel_ I _)) rfl (kI (k := k + 6) (n := n + 230) (fun r1 h1 hV => ?_))
  refine r_aload_n hC dL_law_506 rfl ?_
  refine r_aload_n hC dL_law_507 rfl ?_
  refine r_iload_n hC dL_law_508 rfl ?_
  refine r_iconst (v := 1) hC dL_law_509 (by decide) ?_
  refine r_iadd hC dL_law_510 ?_
  refine r_sld hC hS dL_law_511 (l_in (j := 1) h4 hL (by decide)) ?_
  refine r_callV (ci := 7) (As := [.int (xs (ix (nI (4 * t) + 1)))]) hC dL_law_512 rfl cf_X7_cancel ml_L_73 im_X7_cancel sl_X7_cancel lq_7 rfl rfl hV.1 rfl ⟨Nat.le_of_ble_eq_true rfl, Nat.le_of_ble_eq_true rfl, by show k + 6 + 0 ≤ 600000; omega, by show n + 230 + 0 ≤ 7302250; omega⟩ (csI cs0) (Nat.le_of_ble_eq_true rfl) (con_X7_cancel m (xs (ix (nI (4 * t) + 1))) h1 _ hV.2) rfl (kI (k := k + 6 + 0) (n := n + 230 + 0) (fun r2 h2 hW => ?_))
  refine r_icmp_eq (tgt := 879) hC dL_law_515 (by decide) (fun k9 => ?_) (fun k9 => absurd hW.1 k9)
  exact r_wide (k1 := k + 13) (n1 := n + 419) (by omega) (by omega) (kk h2 hW.2)
set_option maxRecDepth 100000 in
set_option maxHeartbeats 4000000 in
theorem lc_14 {E : Ev} {X : Xt} {l0 : Launch} {b L x m t k n : Nat} {xs : Nat → Int32} {h : Hp} (hC : Cx E X l0 RL cL_law 4 room_1) (hS : SX E X b L xs) (h4 : 4 * t + 4 ≤ L) (hL : L ≤ 2048) (I : INV h x m t) (z0 : hK h 0 = 0) (hk : k + 13 ≤ 600000) (hn : n + 419 ≤ 7302250) (kk : ∀ h2, INV h2 x m (t + 1) → WW E X h2 (k + 13) (n + 419) 879 [some (rv (b + 1)), some (rv x), some (rv m), some (.int (nI (4 * t)))] []) : WW E X h k n 520 [some (rv (b + 1)), some (rv x), some (rv m), some (.int (nI (4 * t)))] [] := by
  refine r_aload_n hC dL_law_520 rfl ?_
  refine r_aload_n hC dL_law_521 rfl ?_
  refine r_iload_n hC dL_law_522 rfl ?_
  refine r_iconst (v := 1) hC dL_law_523 (by decide) ?_
  refine r_iadd hC dL_law_524 ?_
  refine r_sld hC hS dL_law_525 (l_in (j := 1) h4 hL (by decide)) ?_
  refine r_callV (ci := 6) (As := [.int (xs (ix (nI (4 * t) + 1)))]) hC dL_law_526 rfl cf_X6_pass ml_L_74 im_X6_pass sl_X6_pass lq_6 rfl rfl I.kx rfl ⟨Nat.le_of_ble_eq_true rfl, Nat.le_of_ble_eq_true rfl, by show k + 4 ≤ 600000; omega, by show n + 226 ≤ 7302250; omega⟩ cs0 (Nat.le_of_ble_eq_true rfl) (con_X6_pass x (xs (ix (nI (4 * t) + 1))) h _ (sp_pass_ I _)) rfl (kI (k := k + 4) (n := n + 226) (fun r1 h1 hV => ?_))
  refine r_aload_n hC dL_law_529 rfl ?_
  refine r_aload_n hC dL_law_530 rfl ?_
  refine r_iload_n hC dL_law_531 rfl ?_
  refine r_iconst (v := 1) hC dL_law_532 (by decide) ?_
  refine r_iadd hC dL_law_533 ?_
  refine r_sld hC hS dL_law_534 (l_in (j := 1) h4 hL (by decide)) ?_
  refine r_callV (ci := 7) (As := [.int (xs (ix (nI (4 * t) + 1)))]) hC dL_law_535 rfl cf_X7_pass ml_L_77 im_X7_pass sl_X7_pass lq_7 rfl rfl hV.1 rfl ⟨Nat.le_of_ble_eq_true rfl, Nat.le_of_ble_eq_true rfl, by show k + 4 + 0 ≤ 600000; omega, by show n + 226 + 0 ≤ 7302250; omega⟩ (csI cs0) (Nat.le_of_ble_eq_true rfl) (con_X7_pass m (xs (ix (nI (4 * t) + 1))) h1 _ hV.2) rfl (kI (k := k + 4 + 0) (n := n + 226 + 0) (fun r2 h2 hW => ?_))
  refine r_icmp_eq (tgt := 879) hC dL_law_538 (by decide) (fun k9 => ?_) (fun k9 => absurd hW.1 k9)
  exact r_wide (k1 := k + 13) (n1 := n + 419) (by omega) (by omega) (kk h2 hW.2)
set_option maxRecDepth 100000 in
set_option maxHeartbeats 4000000 in
theorem lc_15 {E : Ev} {X : Xt} {l0 : Launch} {b L x m t k n : Nat} {xs : Nat → Int32} {h : Hp} (hC : Cx E X l0 RL cL_law 4 room_1) (hS : SX E X b L xs) (h4 : 4 * t + 4 ≤ L) (hL : L ≤ 2048) (I : INV h x m t) (z0 : hK h 0 = 0) (hk : k + 13 ≤ 600000) (hn : n + 419 ≤ 7302250) (kk : ∀ h2, INV h2 x m (t + 1) → WW E X h2 (k + 13) (n + 419) 879 [some (rv (b + 1)), some (rv x), some (rv m), some (.int (nI (4 * t)))] []) : WW E X h k n 543 [some (rv (b + 1)), some (rv x), some (rv m), some (.int (nI (4 * t)))] [] := by
  refine r_aload_n hC dL_law_543 rfl ?_
  refine r_callV (ci := 6) (As := []) hC dL_law_544 rfl cf_X6_undo ml_L_78 im_X6_undo sl_X6_undo lq_6 rfl rfl I.kx rfl ⟨Nat.le_of_ble_eq_true rfl, Nat.le_of_ble_eq_true rfl, by show k + 0 ≤ 600000; omega, by show n + 0 ≤ 7302250; omega⟩ cs0 (Nat.le_of_ble_eq_true rfl) (con_X6_undo x  h _ (sp_undo_ I z0)) rfl (kI (k := k + 0) (n := n + 0) (fun r1 h1 hV => ?_))
  refine r_aload_n hC dL_law_547 rfl ?_
  refine r_callV (ci := 7) (As := []) hC dL_law_548 rfl cf_X7_undo ml_L_81 im_X7_undo sl_X7_undo lq_7 rfl rfl hV.1 rfl ⟨Nat.le_of_ble_eq_true rfl, Nat.le_of_ble_eq_true rfl, by show k + 0 + 0 ≤ 600000; omega, by show n + 0 + 0 ≤ 7302250; omega⟩ (csI cs0) (Nat.le_of_ble_eq_true rfl) (con_X7_undo m  h1 _ hV.2) rfl (kI (k := k + 0 + 0) (n := n + 0 + 0) (fun r2 h2 hW => ?_))
  refine r_icmp_eq (tgt := 879) hC dL_law_551 (by decide) (fun k9 => ?_) (fun k9 => absurd hW.1 k9)
  exact r_wide (k1 := k + 13) (n1 := n + 419) (by omega) (by omega) (kk h2 hW.2)
set_option maxRecDepth 100000 in
set_option maxHeartbeats 4000000 in
theorem lc_16 {E : Ev} {X : Xt} {l0 : Launch} {b L x m t k n : Nat} {xs : Nat → Int32} {h : Hp} (hC : Cx E X l0 RL cL_law 4 room_1) (hS : SX E X b L xs) (h4 : 4 * t + 4 ≤ L) (hL : L ≤ 2048) (I : INV h x m t) (z0 : hK h 0 = 0) (hk : k + 13 ≤ 600000) (hn : n + 419 ≤ 7302250) (kk : ∀ h2, INV h2 x m (t + 1) → WW E X h2 (k + 13) (n + 419) 879 [some (rv (b + 1)), some (rv x), some (rv m), some (.int (nI (4 * t)))] []) : WW E X h k n 556 [some (rv (b + 1)), some (rv x), some (rv m), some (.int (nI (4 * t)))] [] := by
  refine r_aload_n hC dL_law_556 rfl ?_
  refine r_callV (ci := 6) (As := []) hC dL_law_557 rfl cf_X6_keep ml_L_82 im_X6_keep sl_X6_keep lq_6 rfl rfl I.kx rfl ⟨Nat.le_of_ble_eq_true rfl, Nat.le_of_ble_eq_true rfl, by show k + 4 ≤ 600000; omega, by show n + 226 ≤ 7302250; omega⟩ cs0 (Nat.le_of_ble_eq_true rfl) (con_X6_keep x  h _ (sp_keep_ I)) rfl (kI (k := k + 4) (n := n + 226) (fun r1 h1 hV => ?_))
  refine r_aload_n hC dL_law_560 rfl ?_
  refine r_callV (ci := 7) (As := []) hC dL_law_561 rfl cf_X7_keep ml_L_85 im_X7_keep sl_X7_keep lq_7 rfl rfl hV.1 rfl ⟨Nat.le_of_ble_eq_true rfl, Nat.le_of_ble_eq_true rfl, by show k + 4 + 0 ≤ 600000; omega, by show n + 226 + 0 ≤ 7302250; omega⟩ (csI cs0) (Nat.le_of_ble_eq_true rfl) (con_X7_keep m  h1 _ hV.2) rfl (kI (k := k + 4 + 0) (n := n + 226 + 0) (fun r2 h2 hW => ?_))
  refine r_icmp_eq (tgt := 879) hC dL_law_564 (by decide) (fun k9 => ?_) (fun k9 => absurd hW.1 k9)
  exact r_wide (k1 := k + 13) (n1 := n + 419) (by omega) (by omega) (kk h2 hW.2)
set_option maxRecDepth 100000 in
set_option maxHeartbeats 4000000 in
theorem lc_17 {E : Ev} {X : Xt} {l0 : Launch} {b L x m t k n : Nat} {xs : Nat → Int32} {h : Hp} (hC : Cx E X l0 RL cL_law 4 room_1) (hS : SX E X b L xs) (h4 : 4 * t + 4 ≤ L) (hL : L ≤ 2048) (I : INV h x m t) (z0 : hK h 0 = 0) (hk : k + 13 ≤ 600000) (hn : n + 419 ≤ 7302250) (kk : ∀ h2, INV h2 x m (t + 1) → WW E X h2 (k + 13) (n + 419) 879 [some (rv (b + 1)), some (rv x), some (rv m), some (.int (nI (4 * t)))] []) : WW E X h k n 569 [some (rv (b + 1)), some (rv x), some (rv m), some (.int (nI (4 * t)))] [] := by
  refine r_aload_n hC dL_law_569 rfl ?_
  refine r_callV (ci := 6) (As := []) hC dL_law_570 rfl cf_X6_restore ml_L_86 im_X6_restore sl_X6_restore lq_6 rfl rfl I.kx rfl ⟨Nat.le_of_ble_eq_true rfl, Nat.le_of_ble_eq_true rfl, by show k + 4 ≤ 600000; omega, by show n + 226 ≤ 7302250; omega⟩ cs0 (Nat.le_of_ble_eq_true rfl) (con_X6_restore x  h _ (sp_restore_ I)) rfl (kI (k := k + 4) (n := n + 226) (fun r1 h1 hV => ?_))
  refine r_aload_n hC dL_law_573 rfl ?_
  refine r_callV (ci := 7) (As := []) hC dL_law_574 rfl cf_X7_restore ml_L_89 im_X7_restore sl_X7_restore lq_7 rfl rfl hV.1 rfl ⟨Nat.le_of_ble_eq_true rfl, Nat.le_of_ble_eq_true rfl, by show k + 4 + 0 ≤ 600000; omega, by show n + 226 + 0 ≤ 7302250; omega⟩ (csI cs0) (Nat.le_of_ble_eq_true rfl) (con_X7_restore m  h1 _ hV.2) rfl (kI (k := k + 4 + 0) (n := n + 226 + 0) (fun r2 h2 hW => ?_))
  refine r_icmp_eq (tgt := 879) hC dL_law_577 (by decide) (fun k9 => ?_) (fun k9 => absurd hW.1 k9)
  exact r_wide (k1 := k + 13) (n1 := n + 419) (by omega) (by omega) (kk h2 hW.2)
set_option maxRecDepth 100000 in
set_option maxHeartbeats 4000000 in
theorem lc_18 {E : Ev} {X : Xt} {l0 : Launch} {b L x m t k n : Nat} {xs : Nat → Int32} {h : Hp} (hC : Cx E X l0 RL cL_law 4 room_1) (hS : SX E X b L xs) (h4 : 4 * t + 4 ≤ L) (hL : L ≤ 2048) (I : INV h x m t) (z0 : hK h 0 = 0) (hk : k + 13 ≤ 600000) (hn : n + 419 ≤ 7302250) (kk : ∀ h2, INV h2 x m (t + 1) → WW E X h2 (k + 13) (n + 419) 879 [some (rv (b + 1)), some (rv x), some (rv m), some (.int (nI (4 * t)))] []) : WW E X h k n 582 [some (rv (b + 1)), some (rv x), some (rv m), some (.int (nI (4 * t)))] [] := by
  refine r_aload_n hC dL_law_582 rfl ?_
  refine r_aload_n hC dL_law_583 rfl ?_
  refine r_iload_n hC dL_law_584 rfl ?_
  refine r_iconst (v := 1) hC dL_law_585 (by decide) ?_
  refine r_iadd hC dL_law_586 ?_
  refine r_sld hC hS dL_law_587 (l_in (j := 1) h4 hL (by decide)) ?_
  refine r_aload_n hC dL_law_588 rfl ?_
  refine r_iload_n hC dL_law_589 rfl ?_
  refine r_iconst (v := 2) hC dL_law_590 (by decide) ?_
  refine r_iadd hC dL_law_591 ?_
  refine r_sld hC hS dL_law_592 (l_in (j := 2) h4 hL (by decide)) ?_
  refine r_callV (ci := 6) (As := [.int (xs (ix (nI (4 * t) + 1))), .int (xs (ix (nI (4 * t) + 2)))]) hC dL_law_593 rfl cf_X6_pieces ml_L_90 im_X6_pieces sl_X6_pieces lq_6 rfl rfl I.kx rfl ⟨Nat.le_of_ble_eq_true rfl, Nat.le_of_ble_eq_true rfl, by show k + 0 ≤ 600000; omega, by show n + 0 ≤ 7302250; omega⟩ cs0 (Nat.le_of_ble_eq_true rfl) (con_X6_pieces x (xs (ix (nI (4 * t) + 1))) (xs (ix (nI (4 * t) + 2))) h _ (sp_pieces_ I _ _)) rfl (kI (k := k + 0) (n := n + 0) (fun r1 h1 hV => ?_))
  refine r_aload_n hC dL_law_596 rfl ?_
  refine r_aload_n hC dL_law_597 rfl ?_
  refine r_iload_n hC dL_law_598 rfl ?_
  refine r_iconst (v := 1) hC dL_law_599 (by decide) ?_
  refine r_iadd hC dL_law_600 ?_
  refine r_sld hC hS dL_law_601 (l_in (j := 1) h4 hL (by decide)) ?_
  refine r_aload_n hC dL_law_602 rfl ?_
  refine r_iload_n hC dL_law_603 rfl ?_
  refine r_iconst (v := 2) hC dL_law_604 (by decide) ?_
  refine r_iadd hC dL_law_605 ?_
  refine r_sld hC hS dL_law_606 (l_in (j := 2) h4 hL (by decide)) ?_
  refine r_callV (ci := 7) (As := [.int (xs (ix (nI (4 * t) + 1))), .int (xs (ix (nI (4 * t) + 2)))]) hC dL_law_607 rfl cf_X7_pieces ml_L_93 im_X7_pieces sl_X7_pieces lq_7 rfl rfl hV.1 rfl ⟨Nat.le_of_ble_eq_true rfl, Nat.le_of_ble_eq_true rfl, by show k + 0 + 0 ≤ 600000; omega, by show n + 0 + 0 ≤ 7302250; omega⟩ (csI cs0) (Nat.le_of_ble_eq_true rfl) (con_X7_pieces m (xs (ix (nI (4 * t) + 1))) (xs (ix (nI (4 * t) + 2))) h1 _ hV.2) rfl (kI (k := k + 0 + 0) (n := n + 0 + 0) (fun r2 h2 hW => ?_))
  refine r_icmp_eq (tgt := 879) hC dL_law_610 (by decide) (fun k9 => ?_) (fun k9 => absurd hW.1 k9)
  exact r_wide (k1 := k + 13) (n1 := n + 419) (by omega) (by omega) (kk h2 hW.2)
set_option maxRecDepth 100000 in
set_option maxHeartbeats 4000000 in
theorem lc_19 {E : Ev} {X : Xt} {l0 : Launch} {b L x m t k n : Nat} {xs : Nat → Int32} {h : Hp} (hC : Cx E X l0 RL cL_law 4 room_1) (hS : SX E X b L xs) (h4 : 4 * t + 4 ≤ L) (hL : L ≤ 2048) (I : INV h x m t) (z0 : hK h 0 = 0) (hk : k + 13 ≤ 600000) (hn : n + 419 ≤ 7302250) (kk : ∀ h2, INV h2 x m (t + 1) → WW E X h2 (k + 13) (n + 419) 879 [some (rv (b + 1)), some (rv x), some (rv m), some (.int (nI (4 * t)))] []) : WW E X h k n 615 [some (rv (b + 1)), some (rv x), some (rv m), some (.int (nI (4 * t)))] [] := by
  refine r_aload_n hC dL_law_615 rfl ?_
  refine r_aload_n hC dL_law_616 rfl ?_
  refine r_iload_n hC dL_law_617 rfl ?_
  refine r_iconst (v := 1) hC dL_law_618 (by decide) ?_
  refine r_iadd hC dL_law_619 ?_
  refine r_sld hC hS dL_law_620 (l_in (j := 1) h4 hL (by decide)) ?_
  refine r_aload_n hC dL_law_621 rfl ?_
  refine r_iload_n hC dL_law_622 rfl ?_
  refine r_iconst (v := 2) hC dL_law_623 (by decide) ?_
  refine r_iadd hC dL_law_624 ?_
  refine r_sld hC hS dL_law_625 (l_in (j := 2) h4 hL (by decide)) ?_
  refine r_callV (ci := 6) (As := [.int (xs (ix (nI (4 * t) + 1))), .int (xs (ix (nI (4 * t) + 2)))]) hC dL_law_626 rfl cf_X6_job ml_L_94 im_X6_job sl_X6_job lq_6 rfl rfl I.kx rfl ⟨Nat.le_of_ble_eq_true rfl, Nat.le_of_ble_eq_true rfl, by show k + 0 ≤ 600000; omega, by show n + 0 ≤ 7302250; omega⟩ cs0 (Nat.le_of_ble_eq_true rfl) (con_X6_job x (xs (ix (nI (4 * t) + 1))) (xs (ix (nI (4 * t) + 2))) h _ (sp_job_ I _ _)) rfl (kI (k := k + 0) (n := n + 0) (fun r1 h1 hV => ?_))
  refine r_aload_n hC dL_law_629 rfl ?_
  refine r_aload_n hC dL_law_630 rfl ?_
  refine r_iload_n hC dL_law_631 rfl ?_
  refine r_iconst (v := 1) hC dL_law_632 (by decide) ?_
  refine r_iadd hC dL_law_633 ?_
  refine r_sld hC hS dL_law_634 (l_in (j := 1) h4 hL (by decide)) ?_
  refine r_aload_n hC dL_law_635 rfl ?_
  refine r_iload_n hC dL_law_636 rfl ?_
  refine r_iconst (v := 2) hC dL_law_637 (by decide) ?_
  refine r_iadd hC dL_law_638 ?_
  refine r_sld hC hS dL_law_639 (l_in (j := 2) h4 hL (by decide)) ?_
  refine r_callV (ci := 7) (As := [.int (xs (ix (nI (4 * t) + 1))), .int (xs (ix (nI (4 * t) + 2)))]) hC dL_law_640 rfl cf_X7_job ml_L_97 im_X7_job sl_X7_job lq_7 rfl rfl hV.1 rfl ⟨Nat.le_of_ble_eq_true rfl, Nat.le_of_ble_eq_true rfl, by show k + 0 + 0 ≤ 600000; omega, by show n + 0 + 0 ≤ 7302250; omega⟩ (csI cs0) (Nat.le_of_ble_eq_true rfl) (con_X7_job m (xs (ix (nI (4 * t) + 1))) (xs (ix (nI (4 * t) + 2))) h1 _ hV.2) rfl (kI (k := k + 0 + 0) (n := n + 0 + 0) (fun r2 h2 hW => ?_))
  refine r_icmp_eq (tgt := 879) hC dL_law_643 (by decide) (fun k9 => ?_) (fun k9 => absurd hW.1 k9)
  exact r_wide (k1 := k + 13) (n1 := n + 419) (by omega) (by omega) (kk h2 hW.2)
set_option maxRecDepth 100000 in
set_option maxHeartbeats 4000000 in
theorem lc_20 {E : Ev} {X : Xt} {l0 : Launch} {b L x m t k n : Nat} {xs : Nat → Int32} {h : Hp} (hC : Cx E X l0 RL cL_law 4 room_1) (hS : SX E X b L xs) (h4 : 4 * t + 4 ≤ L) (hL : L ≤ 2048) (I : INV h x m t) (z0 : hK h 0 = 0) (hk : k + 13 ≤ 600000) (hn : n + 419 ≤ 7302250) (kk : ∀ h2, INV h2 x m (t + 1) → WW E X h2 (k + 13) (n + 419) 879 [some (rv (b + 1)), some (rv x), some (rv m), some (.int (nI (4 * t)))] []) : WW E X h k n 648 [some (rv (b + 1)), some (rv x), some (rv m), some (.int (nI (4 * t)))] [] := by
  refine r_aload_n hC dL_law_648 rfl ?_
  refine r_aload_n hC dL_law_649 rfl ?_
  refine r_iload_n hC dL_law_650 rfl ?_
  refine r_iconst (v := 1) hC dL_law_651 (by decide) ?_
  refine r_iadd hC dL_law_652 ?_
  refine r_sld hC hS dL_law_653 (l_in (j := 1) h4 hL (by decide)) ?_
  refine r_aload_n hC dL_law_654 rfl ?_
  refine r_iload_n hC dL_law_655 rfl ?_
  refine r_iconst (v := 2) hC dL_law_656 (by decide) ?_
  refine r_iadd hC dL_law_657 ?_
  refine r_sld hC hS dL_law_658 (l_in (j := 2) h4 hL (by decide)) ?_
  refine r_callV (ci := 6) (As := [.int (xs (ix (nI (4 * t) + 1))), .int (xs (ix (nI (4 * t) + 2)))]) hC dL_law_659 rfl cf_X6_need ml_L_98 im_X6_need sl_X6_need lq_6 rfl rfl I.kx rfl ⟨Nat.le_of_ble_eq_true rfl, Nat.le_of_ble_eq_true rfl, by show k + 0 ≤ 600000; omega, by show n + 0 ≤ 7302250; omega⟩ cs0 (Nat.le_of_ble_eq_true rfl) (con_X6_need x (xs (ix (nI (4 * t) + 1))) (xs (ix (nI (4 * t) + 2))) h _ (sp_need_ I _ _)) rfl (kI (k := k + 0) (n := n + 0) (fun r1 h1 hV => ?_))
  refine r_aload_n hC dL_law_662 rfl ?_
  refine r_aload_n hC dL_law_663 rfl ?_
  refine r_iload_n hC dL_law_664 rfl ?_
  refine r_iconst (v := 1) hC dL_law_665 (by decide) ?_
  refine r_iadd hC dL_law_666 ?_
  refine r_sld hC hS dL_law_667 (l_in (j := 1) h4 hL (by decide)) ?_
  refine r_aload_n hC dL_law_668 rfl ?_
  refine r_iload_n hC dL_law_669 rfl ?_
  refine r_iconst (v := 2) hC dL_law_670 (by decide) ?_
  refine r_iadd hC dL_law_671 ?_
  refine r_sld hC hS dL_law_672 (l_in (j := 2) h4 hL (by decide)) ?_
  refine r_callV (ci := 7) (As := [.int (xs (ix (nI (4 * t) + 1))), .int (xs (ix (nI (4 * t) + 2)))]) hC dL_law_673 rfl cf_X7_need ml_L_101 im_X7_need sl_X7_need lq_7 rfl rfl hV.1 rfl ⟨Nat.le_of_ble_eq_true rfl, Nat.le_of_ble_eq_true rfl, by show k + 0 + 0 ≤ 600000; omega, by show n + 0 + 0 ≤ 7302250; omega⟩ (csI cs0) (Nat.le_of_ble_eq_true rfl) (con_X7_need m (xs (ix (nI (4 * t) + 1))) (xs (ix (nI (4 * t) + 2))) h1 _ hV.2) rfl (kI (k := k + 0 + 0) (n := n + 0 + 0) (fun r2 h2 hW => ?_))
  refine r_icmp_eq (tgt := 879) hC dL_law_676 (by decide) (fun k9 => ?_) (fun k9 => absurd hW.1 k9)
  exact r_wide (k1 := k + 13) (n1 := n + 419) (by omega) (by omega) (kk h2 hW.2)
set_option maxRecDepth 100000 in
set_option maxHeartbeats 4000000 in
theorem lc_21 {E : Ev} {X : Xt} {l0 : Launch} {b L x m t k n : Nat} {xs : Nat → Int32} {h : Hp} (hC : Cx E X l0 RL cL_law 4 room_1) (hS : SX E X b L xs) (h4 : 4 * t + 4 ≤ L) (hL : L ≤ 2048) (I : INV h x m t) (z0 : hK h 0 = 0) (hk : k + 13 ≤ 600000) (hn : n + 419 ≤ 7302250) (kk : ∀ h2, INV h2 x m (t + 1) → WW E X h2 (k + 13) (n + 419) 879 [some (rv (b + 1)), some (rv x), some (rv m), some (.int (nI (4 * t)))] []) : WW E X h k n 681 [some (rv (b + 1)), some (rv x), some (rv m), some (.int (nI (4 * t)))] [] := by
  refine r_aload_n hC dL_law_681 rfl ?_
  refine r_aload_n hC dL_law_682 rfl ?_
  refine r_iload_n hC dL_law_683 rfl ?_
  refine r_iconst (v := 1) hC dL_law_684 (by decide) ?_
  refine r_iadd hC dL_law_685 ?_
  refine r_sld hC hS dL_law_686 (l_in (j := 1) h4 hL (by decide)) ?_
  refine r_aload_n hC dL_law_687 rfl ?_
  refine r_iload_n hC dL_law_688 rfl ?_
  refine r_iconst (v := 2) hC dL_law_689 (by decide) ?_
  refine r_iadd hC dL_law_690 ?_
  refine r_sld hC hS dL_law_691 (l_in (j := 2) h4 hL (by decide)) ?_
  refine r_callV (ci := 6) (As := [.int (xs (ix (nI (4 * t) + 1))), .int (xs (ix (nI (4 * t) + 2)))]) hC dL_law_692 rfl cf_X6_missing ml_L_102 im_X6_missing sl_X6_missing lq_6 rfl rfl I.kx rfl ⟨Nat.le_of_ble_eq_true rfl, Nat.le_of_ble_eq_true rfl, by show k + 0 ≤ 600000; omega, by show n + 0 ≤ 7302250; omega⟩ cs0 (Nat.le_of_ble_eq_true rfl) (con_X6_missing x (xs (ix (nI (4 * t) + 1))) (xs (ix (nI (4 * t) + 2))) h _ (sp_missing_ I _ _)) rfl (kI (k := k + 0) (n := n + 0) (fun r1 h1 hV => ?_))
  refine r_aload_n hC dL_law_695 rfl ?_
  refine r_aload_n hC dL_law_696 rfl ?_
  refine r_iload_n hC dL_law_697 rfl ?_
  refine r_iconst (v := 1) hC dL_law_698 (by decide) ?_
  refine r_iadd hC dL_law_699 ?_
  refine r_sld hC hS dL_law_700 (l_in (j := 1) h4 hL (by decide)) ?_
  refine r_aload_n hC dL_law_701 rfl ?_
  refine r_iload_n hC dL_law_702 rfl ?_
  refine r_iconst (v := 2) hC dL_law_703 (by decide) ?_
  refine r_iadd hC dL_law_704 ?_
  refine r_sld hC hS dL_law_705 (l_in (j := 2) h4 hL (by decide)) ?_
  refine r_callV (ci := 7) (As := [.int (xs (ix (nI (4 * t) + 1))), .int (xs (ix (nI (4 * t) + 2)))]) hC dL_law_706 rfl cf_X7_missing ml_L_105 im_X7_missing sl_X7_missing lq_7 rfl rfl hV.1 rfl ⟨Nat.le_of_ble_eq_true rfl, Nat.le_of_ble_eq_true rfl, by show k + 0 + 0 ≤ 600000; omega, by show n + 0 + 0 ≤ 7302250; omega⟩ (csI cs0) (Nat.le_of_ble_eq_true rfl) (con_X7_missing m (xs (ix (nI (4 * t) + 1))) (xs (ix (nI (4 * t) + 2))) h1 _ hV.2) rfl (kI (k := k + 0 + 0) (n := n + 0 + 0) (fun r2 h2 hW => ?_))
  refine r_icmp_eq (tgt := 879) hC dL_law_709 (by decide) (fun k9 => ?_) (fun k9 => absurd hW.1 k9)
  exact r_wide (k1 := k + 13) (n1 := n + 419) (by omega) (by omega) (kk h2 hW.2)
set_option maxRecDepth 100000 in
set_option maxHeartbeats 4000000 in
theorem lc_22 {E : Ev} {X : Xt} {l0 : Launch} {b L x m t k n : Nat} {xs : Nat → Int32} {h : Hp} (hC : Cx E X l0 RL cL_law 4 room_1) (hS : SX E X b L xs) (h4 : 4 * t + 4 ≤ L) (hL : L ≤ 2048) (I : INV h x m t) (z0 : hK h 0 = 0) (hk : k + 13 ≤ 600000) (hn : n + 419 ≤ 7302250) (kk : ∀ h2, INV h2 x m (t + 1) → WW E X h2 (k + 13) (n + 419) 879 [some (rv (b + 1)), some (rv x), some (rv m), some (.int (nI (4 * t)))] []) : WW E X h k n 714 [some (rv (b + 1)), some (rv x), some (rv m), some (.int (nI (4 * t)))] [] := by
  refine r_aload_n hC dL_law_714 rfl ?_
  refine r_aload_n hC dL_law_715 rfl ?_
  refine r_iload_n hC dL_law_716 rfl ?_
  refine r_iconst (v := 1) hC dL_law_717 (by decide) ?_
  refine r_iadd hC dL_law_718 ?_
  refine r_sld hC hS dL_law_719 (l_in (j := 1) h4 hL (by decide)) ?_
  refine r_aload_n hC dL_law_720 rfl ?_
  refine r_iload_n hC dL_law_721 rfl ?_
  refine r_iconst (v := 2) hC dL_law_722 (by decide) ?_
  refine r_iadd hC dL_law_723 ?_
  refine r_sld hC hS dL_law_724 (l_in (j := 2) h4 hL (by decide)) ?_
  refine r_aload_n hC dL_law_725 rfl ?_
  refine r_iload_n hC dL_law_726 rfl ?_
  refine r_iconst (v := 3) hC dL_law_727 (by decide) ?_
  refine r_iadd hC dL_law_728 ?_
  refine r_sld hC hS dL_law_729 (l_in (j := 3) h4 hL (by decide)) ?_
  refine r_callV (ci := 6) (As := [.int (xs (ix (nI (4 * t) + 1))), .int (xs (ix (nI (4 * t) + 2))), .int (xs (ix (nI (4 * t) + 3)))]) hC dL_law_730 rfl cf_X6_taken ml_L_106 im_X6_taken sl_X6_taken lq_6 rfl rfl I.kx rfl ⟨Nat.le_of_ble_eq_true rfl, Nat.le_of_ble_eq_true rfl, by show k + 0 ≤ 600000; omega, by show n + 0 ≤ 7302250; omega⟩ cs0 (Nat.le_of_ble_eq_true rfl) (con_X6_taken x (xs (ix (nI (4 * t) + 1))) (xs (ix (nI (4 * t) + 2))) (xs (ix (nI (4 * t) + 3))) h _ (sp_taken_ I _ _ _)) rfl (kI (k := k + 0) (n := n + 0) (fun r1 h1 hV => ?_))
  refine r_aload_n hC dL_law_733 rfl ?_
  refine r_aload_n hC dL_law_734 rfl ?_
  refine r_iload_n hC dL_law_735 rfl ?_
  refine r_iconst (v := 1) hC dL_law_736 (by decide) ?_
  refine r_iadd hC dL_law_737 ?_
  refine r_sld hC hS dL_law_738 (l_in (j := 1) h4 hL (by decide)) ?_
  refine r_aload_n hC dL_law_739 rfl ?_
  refine r_iload_n hC dL_law_740 rfl ?_
  refine r_iconst (v := 2) hC dL_law_741 (by decide) ?_
  refine r_iadd hC dL_law_742 ?_
  refine r_sld hC hS dL_law_743 (l_in (j := 2) h4 hL (by decide)) ?_
  refine r_aload_n hC dL_law_744 rfl ?_
  refine r_iload_n hC dL_law_745 rfl ?_
  refine r_iconst (v := 3) hC dL_law_746 (by decide) ?_
  refine r_iadd hC dL_law_747 ?_
  refine r_sld hC hS dL_law_748 (l_in (j := 3) h4 hL (by decide)) ?_
  refine r_callV (ci := 7) (As := [.int (xs (ix (nI (4 * t) + 1))), .int (xs (ix (nI (4 * t) + 2))), .int (xs (ix (nI (4 * t) + 3)))]) hC dL_law_749 rfl cf_X7_taken ml_L_109 im_X7_taken sl_X7_taken lq_7 rfl rfl hV.1 rfl ⟨Nat.le_of_ble_eq_true rfl, Nat.le_of_ble_eq_true rfl, by show k + 0 + 0 ≤ 600000; omega, by show n + 0 + 0 ≤ 7302250; omega⟩ (csI cs0) (Nat.le_of_ble_eq_true rfl) (con_X7_taken m (xs (ix (nI (4 * t) + 1))) (xs (ix (nI (4 * t) + 2))) (xs (ix (nI (4 * t) + 3))) h1 _ hV.2) rfl (kI (k := k + 0 + 0) (n := n + 0 + 0) (fun r2 h2 hW => ?_))
  refine r_icmp_eq (tgt := 879) hC dL_law_752 (by decide) (fun k9 => ?_) (fun k9 => absurd hW.1 k9)
  exact r_wide (k1 := k + 13) (n1 := n + 419) (by omega) (by omega) (kk h2 hW.2)
set_option maxRecDepth 100000 in
set_option maxHeartbeats 4000000 in
theorem lc_23 {E : Ev} {X : Xt} {l0 : Launch} {b L x m t k n : Nat} {xs : Nat → Int32} {h : Hp} (hC : Cx E X l0 RL cL_law 4 room_1) (hS : SX E X b L xs) (h4 : 4 * t + 4 ≤ L) (hL : L ≤ 2048) (I : INV h x m t) (z0 : hK h 0 = 0) (hk : k + 13 ≤ 600000) (hn : n + 419 ≤ 7302250) (kk : ∀ h2, INV h2 x m (t + 1) → WW E X h2 (k + 13) (n + 419) 879 [some (rv (b + 1)), some (rv x), some (rv m), some (.int (nI (4 * t)))] []) : WW E X h k n 757 [some (rv (b + 1)), some (rv x), some (rv m), some (.int (nI (4 * t)))] [] := by
  refine r_aload_n hC dL_law_757 rfl ?_
  refine r_aload_n hC dL_law_758 rfl ?_
  refine r_iload_n hC dL_law_759 rfl ?_
  refine r_iconst (v := 1) hC dL_law_760 (by decide) ?_
  refine r_iadd hC dL_law_761 ?_
  refine r_sld hC hS dL_law_762 (l_in (j := 1) h4 hL (by decide)) ?_
  refine r_aload_n hC dL_law_763 rfl ?_
  refine r_iload_n hC dL_law_764 rfl ?_
  refine r_iconst (v := 2) hC dL_law_765 (by decide) ?_
  refine r_iadd hC dL_law_766 ?_
  refine r_sld hC hS dL_law_767 (l_in (j := 2) h4 hL (by decide)) ?_
  refine r_aload_n hC dL_law_768 rfl ?_
  refine r_iload_n hC dL_law_769 rfl ?_
  refine r_iconst (v := 3) hC dL_law_770 (by decide) ?_
  refine r_iadd hC dL_law_771 ?_
  refine r_sld hC hS dL_law_772 (l_in (j := 3) h4 hL (by decide)) ?_
  refine r_callV (ci := 6) (As := [.int (xs (ix (nI (4 * t) + 1))), .int (xs (ix (nI (4 * t) + 2))), .int (xs (ix (nI (4 * t) + 3)))]) hC dL_law_773 rfl cf_X6_gap ml_L_110 im_X6_gap sl_X6_gap lq_6 rfl rfl I.kx rfl ⟨Nat.le_of_ble_eq_true rfl, Nat.le_of_ble_eq_true rfl, by show k + 0 ≤ 600000; omega, by show n + 0 ≤ 7302250; omega⟩ cs0 (Nat.le_of_ble_eq_true rfl) (con_X6_gap x (xs (ix (nI (4 * t) + 1))) (xs (ix (nI (4 * t) + 2))) (xs (ix (nI (4 * t) + 3))) h _ (sp_gap_ I _ _ _)) rfl (kI (k := k + 0) (n := n + 0) (fun r1 h1 hV => ?_))
  refine r_aload_n hC dL_law_776 rfl ?_
  refine r_aload_n hC dL_law_777 rfl ?_
  refine r_iload_n hC dL_law_778 rfl ?_
  refine r_iconst (v := 1) hC dL_law_779 (by decide) ?_
  refine r_iadd hC dL_law_780 ?_
  refine r_sld hC hS dL_law_781 (l_in (j := 1) h4 hL (by decide)) ?_
  refine r_aload_n hC dL_law_782 rfl ?_
  refine r_iload_n hC dL_law_783 rfl ?_
  refine r_iconst (v := 2) hC dL_law_784 (by decide) ?_
  refine r_iadd hC dL_law_785 ?_
  refine r_sld hC hS dL_law_786 (l_in (j := 2) h4 hL (by decide)) ?_
  refine r_aload_n hC dL_law_787 rfl ?_
  refine r_iload_n hC dL_law_788 rfl ?_
  refine r_iconst (v := 3) hC dL_law_789 (by decide) ?_
  refine r_iadd hC dL_law_790 ?_
  refine r_sld hC hS dL_law_791 (l_in (j := 3) h4 hL (by decide)) ?_
  refine r_callV (ci := 7) (As := [.int (xs (ix (nI (4 * t) + 1))), .int (xs (ix (nI (4 * t) + 2))), .int (xs (ix (nI (4 * t) + 3)))]) hC dL_law_792 rfl cf_X7_gap ml_L_113 im_X7_gap sl_X7_gap lq_7 rfl rfl hV.1 rfl ⟨Nat.le_of_ble_eq_true rfl, Nat.le_of_ble_eq_true rfl, by show k + 0 + 0 ≤ 600000; omega, by show n + 0 + 0 ≤ 7302250; omega⟩ (csI cs0) (Nat.le_of_ble_eq_true rfl) (con_X7_gap m (xs (ix (nI (4 * t) + 1))) (xs (ix (nI (4 * t) + 2))) (xs (ix (nI (4 * t) + 3))) h1 _ hV.2) rfl (kI (k := k + 0 + 0) (n := n + 0 + 0) (fun r2 h2 hW => ?_))
  refine r_icmp_eq (tgt := 879) hC dL_law_795 (by decide) (fun k9 => ?_) (fun k9 => absurd hW.1 k9)
  exact r_wide (k1 := k + 13) (n1 := n + 419) (by omega) (by omega) (kk h2 hW.2)
set_option maxRecDepth 100000 in
set_option maxHeartbeats 4000000 in
theorem lc_24 {E : Ev} {X : Xt} {l0 : Launch} {b L x m t k n : Nat} {xs : Nat → Int32} {h : Hp} (hC : Cx E X l0 RL cL_law 4 room_1) (hS : SX E X b L xs) (h4 : 4 * t + 4 ≤ L) (hL : L ≤ 2048) (I : INV h x m t) (z0 : hK h 0 = 0) (hk : k + 13 ≤ 600000) (hn : n + 419 ≤ 7302250) (kk : ∀ h2, INV h2 x m (t + 1) → WW E X h2 (k + 13) (n + 419) 879 [some (rv (b + 1)), some (rv x), some (rv m), some (.int (nI (4 * t)))] []) : WW E X h k n 800 [some (rv (b + 1)), some (rv x), some (rv m), some (.int (nI (4 * t)))] [] := by
  refine r_aload_n hC dL_law_800 rfl ?_
  refine r_aload_n hC dL_law_801 rfl ?_
  refine r_iload_n hC dL_law_802 rfl ?_
  refine r_iconst (v := 1) hC dL_law_803 (by decide) ?_
  refine r_iadd hC dL_law_804 ?_
  refine r_sld hC hS dL_law_805 (l_in (j := 1) h4 hL (by decide)) ?_
  refine r_aload_n hC dL_law_806 rfl ?_
  refine r_iload_n hC dL_law_807 rfl ?_
  refine r_iconst (v := 2) hC dL_law_808 (by decide) ?_
  refine r_iadd hC dL_law_809 ?_
  refine r_sld hC hS dL_law_810 (l_in (j := 2) h4 hL (by decide)) ?_
  refine r_aload_n hC dL_law_811 rfl ?_
  refine r_iload_n hC dL_law_812 rfl ?_
  refine r_iconst (v := 3) hC dL_law_813 (by decide) ?_
  refine r_iadd hC dL_law_814 ?_
  refine r_sld hC hS dL_law_815 (l_in (j := 3) h4 hL (by decide)) ?_
  refine r_callV (ci := 6) (As := [.int (xs (ix (nI (4 * t) + 1))), .int (xs (ix (nI (4 * t) + 2))), .int (xs (ix (nI (4 * t) + 3)))]) hC dL_law_816 rfl cf_X6_pieceAt ml_L_114 im_X6_pieceAt sl_X6_pieceAt lq_6 rfl rfl I.kx rfl ⟨Nat.le_of_ble_eq_true rfl, Nat.le_of_ble_eq_true rfl, by show k + 0 ≤ 600000; omega, by show n + 0 ≤ 7302250; omega⟩ cs0 (Nat.le_of_ble_eq_true rfl) (con_X6_pieceAt x (xs (ix (nI (4 * t) + 1))) (xs (ix (nI (4 * t) + 2))) (xs (ix (nI (4 * t) + 3))) h _ (sp_pieceAt_ I _ _ _)) rfl (kI (k := k + 0) (n := n + 0) (fun r1 h1 hV => ?_))
  refine r_aload_n hC dL_law_819 rfl ?_
  refine r_aload_n hC dL_law_820 rfl ?_
  refine r_iload_n hC dL_law_821 rfl ?_
  refine r_iconst (v := 1) hC dL_law_822 (by decide) ?_
  refine r_iadd hC dL_law_823 ?_
  refine r_sld hC hS dL_law_824 (l_in (j := 1) h4 hL (by decide)) ?_
  refine r_aload_n hC dL_law_825 rfl ?_
  refine r_iload_n hC dL_law_826 rfl ?_
  refine r_iconst (v := 2) hC dL_law_827 (by decide) ?_
  refine r_iadd hC dL_law_828 ?_
  refine r_sld hC hS dL_law_829 (l_in (j := 2) h4 hL (by decide)) ?_
  refine r_aload_n hC dL_law_830 rfl ?_
  refine r_iload_n hC dL_law_831 rfl ?_
  refine r_iconst (v := 3) hC dL_law_832 (by decide) ?_
  refine r_iadd hC dL_law_833 ?_
  refine r_sld hC hS dL_law_834 (l_in (j := 3) h4 hL (by decide)) ?_
  refine r_callV (ci := 7) (As := [.int (xs (ix (nI (4 * t) + 1))), .int (xs (ix (nI (4 * t) + 2))), .int (xs (ix (nI (4 * t) + 3)))]) hC dL_law_835 rfl cf_X7_pieceAt ml_L_117 im_X7_pieceAt sl_X7_pieceAt lq_7 rfl rfl hV.1 rfl ⟨Nat.le_of_ble_eq_true rfl, Nat.le_of_ble_eq_true rfl, by show k + 0 + 0 ≤ 600000; omega, by show n + 0 + 0 ≤ 7302250; omega⟩ (csI cs0) (Nat.le_of_ble_eq_true rfl) (con_X7_pieceAt m (xs (ix (nI (4 * t) + 1))) (xs (ix (nI (4 * t) + 2))) (xs (ix (nI (4 * t) + 3))) h1 _ hV.2) rfl (kI (k := k + 0 + 0) (n := n + 0 + 0) (fun r2 h2 hW => ?_))
  refine r_icmp_eq (tgt := 879) hC dL_law_838 (by decide) (fun k9 => ?_) (fun k9 => absurd hW.1 k9)
  exact r_wide (k1 := k + 13) (n1 := n + 419) (by omega) (by omega) (kk h2 hW.2)
set_option maxRecDepth 100000 in
set_option maxHeartbeats 4000000 in
theorem lc_25 {E : Ev} {X : Xt} {l0 : Launch} {b L x m t k n : Nat} {xs : Nat → Int32} {h : Hp} (hC : Cx E X l0 RL cL_law 4 room_1) (hS : SX E X b L xs) (h4 : 4 * t + 4 ≤ L) (hL : L ≤ 2048) (I : INV h x m t) (z0 : hK h 0 = 0) (hk : k + 13 ≤ 600000) (hn : n + 419 ≤ 7302250) (kk : ∀ h2, INV h2 x m (t + 1) → WW E X h2 (k + 13) (n + 419) 879 [some (rv (b + 1)), some (rv x), some (rv m), some (.int (nI (4 * t)))] []) : WW E X h k n 843 [some (rv (b + 1)), some (rv x), some (rv m), some (.int (nI (4 * t)))] [] := by
  refine r_aload_n hC dL_law_843 rfl ?_
  refine r_callV (ci := 6) (As := []) hC dL_law_844 rfl cf_X6_urgent ml_L_118 im_X6_urgent sl_X6_urgent lq_6 rfl rfl I.kx rfl ⟨Nat.le_of_ble_eq_true rfl, Nat.le_of_ble_eq_true rfl, by show k + 0 ≤ 600000; omega, by show n + 0 ≤ 7302250; omega⟩ cs0 (Nat.le_of_ble_eq_true rfl) (con_X6_urgent x  h _ (sp_urgent_ I)) rfl (kI (k := k + 0) (n := n + 0) (fun r1 h1 hV => ?_))
  refine r_aload_n hC dL_law_847 rfl ?_
  refine r_callV (ci := 7) (As := []) hC dL_law_848 rfl cf_X7_urgent ml_L_121 im_X7_urgent sl_X7_urgent lq_7 rfl rfl hV.1 rfl ⟨Nat.le_of_ble_eq_true rfl, Nat.le_of_ble_eq_true rfl, by show k + 0 + 0 ≤ 600000; omega, by show n + 0 + 0 ≤ 7302250; omega⟩ (csI cs0) (Nat.le_of_ble_eq_true rfl) (con_X7_urgent m  h1 _ hV.2) rfl (kI (k := k + 0 + 0) (n := n + 0 + 0) (fun r2 h2 hW => ?_))
  refine r_icmp_eq (tgt := 879) hC dL_law_851 (by decide) (fun k9 => ?_) (fun k9 => absurd hW.1 k9)
  exact r_wide (k1 := k + 13) (n1 := n + 419) (by omega) (by omega) (kk h2 hW.2)
set_option maxRecDepth 100000 in
set_option maxHeartbeats 4000000 in
theorem lc_26 {E : Ev} {X : Xt} {l0 : Launch} {b L x m t k n : Nat} {xs : Nat → Int32} {h : Hp} (hC : Cx E X l0 RL cL_law 4 room_1) (hS : SX E X b L xs) (h4 : 4 * t + 4 ≤ L) (hL : L ≤ 2048) (I : INV h x m t) (z0 : hK h 0 = 0) (hk : k + 13 ≤ 600000) (hn : n + 419 ≤ 7302250) (kk : ∀ h2, INV h2 x m (t + 1) → WW E X h2 (k + 13) (n + 419) 879 [some (rv (b + 1)), some (rv x), some (rv m), some (.int (nI (4 * t)))] []) : WW E X h k n 856 [some (rv (b + 1)), some (rv x), some (rv m), some (.int (nI (4 * t)))] [] := by
  refine r_aload_n hC dL_law_856 rfl ?_
  refine r_aload_n hC dL_law_857 rfl ?_
  refine r_iload_n hC dL_law_858 rfl ?_
  refine r_iconst (v := 1) hC dL_law_859 (by decide) ?_
  refine r_iadd hC dL_law_860 ?_
  refine r_sld hC hS dL_law_861 (l_in (j := 1) h4 hL (by decide)) ?_
  refine r_callV (ci := 6) (As := [.int (xs (ix (nI (4 * t) + 1)))]) hC dL_law_862 rfl cf_X6_count ml_L_122 im_X6_count sl_X6_count lq_6 rfl rfl I.kx rfl ⟨Nat.le_of_ble_eq_true rfl, Nat.le_of_ble_eq_true rfl, by show k + 0 ≤ 600000; omega, by show n + 0 ≤ 7302250; omega⟩ cs0 (Nat.le_of_ble_eq_true rfl) (con_X6_count x (xs (ix (nI (4 * t) + 1))) h _ (sp_count_ I _)) rfl (kI (k := k + 0) (n := n + 0) (fun r1 h1 hV => ?_))
  refine r_aload_n hC dL_law_865 rfl ?_
  refine r_aload_n hC dL_law_866 rfl ?_
  refine r_iload_n hC dL_law_867 rfl ?_
  refine r_iconst (v := 1) hC dL_law_868 (by decide) ?_
  refine r_iadd hC dL_law_869 ?_
  refine r_sld hC hS dL_law_870 (l_in (j := 1) h4 hL (by decide)) ?_
  refine r_callV (ci := 7) (As := [.int (xs (ix (nI (4 * t) + 1)))]) hC dL_law_871 rfl cf_X7_count ml_L_125 im_X7_count sl_X7_count lq_7 rfl rfl hV.1 rfl ⟨Nat.le_of_ble_eq_true rfl, Nat.le_of_ble_eq_true rfl, by show k + 0 + 0 ≤ 600000; omega, by show n + 0 + 0 ≤ 7302250; omega⟩ (csI cs0) (Nat.le_of_ble_eq_true rfl) (con_X7_count m (xs (ix (nI (4 * t) + 1))) h1 _ hV.2) rfl (kI (k := k + 0 + 0) (n := n + 0 + 0) (fun r2 h2 hW => ?_))
  refine r_icmp_eq (tgt := 879) hC dL_law_874 (by decide) (fun k9 => ?_) (fun k9 => absurd hW.1 k9)
  exact r_wide (k1 := k + 13) (n1 := n + 419) (by omega) (by omega) (kk h2 hW.2)
