theorem dX7_layLine_0 : decode cX7_layLine 0 = .ok (.iconst 1, 1) := by decide +kernel
theorem dX7_layLine_1 : decode cX7_layLine 1 = .ok (.istore 4, 2) := by decide +kernel
theorem dX7_layLine_3 : decode cX7_layLine 3 = .ok (.iload_n 3, 1) := by decide +kernel
theorem dX7_layLine_4 : decode cX7_layLine 4 = .ok (.istore 5, 2) := by decide +kernel
theorem dX7_layLine_6 : decode cX7_layLine 6 = .ok (.iload_n 1, 1) := by decide +kernel
theorem dX7_layLine_7 : decode cX7_layLine 7 = .ok (.istore 6, 2) := by decide +kernel
theorem dX7_layLine_9 : decode cX7_layLine 9 = .ok (.iload 6, 2) := by decide +kernel
theorem dX7_layLine_11 : decode cX7_layLine 11 = .ok (.iload_n 2, 1) := by decide +kernel
theorem dX7_layLine_12 : decode cX7_layLine 12 = .ok (.if_icmp .ge 56, 3) := by decide +kernel
theorem dX7_layLine_15 : decode cX7_layLine 15 = .ok (.aload_n 0, 1) := by decide +kernel
theorem dX7_layLine_16 : decode cX7_layLine 16 = .ok (.getfield 22, 3) := by decide +kernel
theorem dX7_layLine_19 : decode cX7_layLine 19 = .ok (.iload 6, 2) := by decide +kernel
theorem dX7_layLine_21 : decode cX7_layLine 21 = .ok (.iaload, 1) := by decide +kernel
theorem dX7_layLine_22 : decode cX7_layLine 22 = .ok (.invokestatic 96, 3) := by decide +kernel
theorem dX7_layLine_25 : decode cX7_layLine 25 = .ok (.ifCond .eq 34, 3) := by decide +kernel
theorem dX7_layLine_28 : decode cX7_layLine 28 = .ok (.iload 5, 2) := by decide +kernel
theorem dX7_layLine_30 : decode cX7_layLine 30 = .ok (.aload_n 0, 1) := by decide +kernel
theorem dX7_layLine_31 : decode cX7_layLine 31 = .ok (.getfield 22, 3) := by decide +kernel
theorem dX7_layLine_34 : decode cX7_layLine 34 = .ok (.iload 6, 2) := by decide +kernel
theorem dX7_layLine_36 : decode cX7_layLine 36 = .ok (.iaload, 1) := by decide +kernel
theorem dX7_layLine_37 : decode cX7_layLine 37 = .ok (.bipush 97, 2) := by decide +kernel
theorem dX7_layLine_39 : decode cX7_layLine 39 = .ok (.isub, 1) := by decide +kernel
theorem dX7_layLine_40 : decode cX7_layLine 40 = .ok (.invokestatic 68, 3) := by decide +kernel
theorem dX7_layLine_43 : decode cX7_layLine 43 = .ok (.isub, 1) := by decide +kernel
theorem dX7_layLine_44 : decode cX7_layLine 44 = .ok (.istore 5, 2) := by decide +kernel
theorem dX7_layLine_46 : decode cX7_layLine 46 = .ok (.aload_n 0, 1) := by decide +kernel
theorem dX7_layLine_47 : decode cX7_layLine 47 = .ok (.dup, 1) := by decide +kernel
theorem dX7_layLine_48 : decode cX7_layLine 48 = .ok (.getfield 99, 3) := by decide +kernel
theorem dX7_layLine_51 : decode cX7_layLine 51 = .ok (.iconst 1, 1) := by decide +kernel
theorem dX7_layLine_52 : decode cX7_layLine 52 = .ok (.iadd, 1) := by decide +kernel
theorem dX7_layLine_53 : decode cX7_layLine 53 = .ok (.putfield 99, 3) := by decide +kernel
theorem dX7_layLine_56 : decode cX7_layLine 56 = .ok (.goto 6, 3) := by decide +kernel
theorem dX7_layLine_59 : decode cX7_layLine 59 = .ok (.iinc 4 1, 3) := by decide +kernel
theorem dX7_layLine_62 : decode cX7_layLine 62 = .ok (.iinc 6 1, 3) := by decide +kernel
theorem dX7_layLine_65 : decode cX7_layLine 65 = .ok (.goto (-56), 3) := by decide +kernel
theorem dX7_layLine_68 : decode cX7_layLine 68 = .ok (.aload_n 0, 1) := by decide +kernel
theorem dX7_layLine_69 : decode cX7_layLine 69 = .ok (.aload_n 0, 1) := by decide +kernel
theorem dX7_layLine_70 : decode cX7_layLine 70 = .ok (.getfield 102, 3) := by decide +kernel
theorem dX7_layLine_73 : decode cX7_layLine 73 = .ok (.ifCond .ne 12, 3) := by decide +kernel
theorem dX7_layLine_76 : decode cX7_layLine 76 = .ok (.iload 5, 2) := by decide +kernel
theorem dX7_layLine_78 : decode cX7_layLine 78 = .ok (.iload 4, 2) := by decide +kernel
theorem dX7_layLine_80 : decode cX7_layLine 80 = .ok (.iconst 1, 1) := by decide +kernel
theorem dX7_layLine_81 : decode cX7_layLine 81 = .ok (.isub, 1) := by decide +kernel
theorem dX7_layLine_82 : decode cX7_layLine 82 = .ok (.if_icmp .ge 7, 3) := by decide +kernel
theorem dX7_layLine_85 : decode cX7_layLine 85 = .ok (.iconst 1, 1) := by decide +kernel
theorem dX7_layLine_86 : decode cX7_layLine 86 = .ok (.goto 4, 3) := by decide +kernel
theorem dX7_layLine_89 : decode cX7_layLine 89 = .ok (.iconst 0, 1) := by decide +kernel
theorem dX7_layLine_90 : decode cX7_layLine 90 = .ok (.putfield 102, 3) := by decide +kernel
theorem dX7_layLine_93 : decode cX7_layLine 93 = .ok (.iload 4, 2) := by decide +kernel
theorem dX7_layLine_95 : decode cX7_layLine 95 = .ok (.iconst 1, 1) := by decide +kernel
theorem dX7_layLine_96 : decode cX7_layLine 96 = .ok (.if_icmp .le 10, 3) := by decide +kernel
theorem dX7_layLine_99 : decode cX7_layLine 99 = .ok (.iload 4, 2) := by decide +kernel
theorem dX7_layLine_101 : decode cX7_layLine 101 = .ok (.iconst 1, 1) := by decide +kernel
theorem dX7_layLine_102 : decode cX7_layLine 102 = .ok (.isub, 1) := by decide +kernel
theorem dX7_layLine_103 : decode cX7_layLine 103 = .ok (.goto 4, 3) := by decide +kernel
theorem dX7_layLine_106 : decode cX7_layLine 106 = .ok (.iconst 1, 1) := by decide +kernel
theorem dX7_layLine_107 : decode cX7_layLine 107 = .ok (.istore 6, 2) := by decide +kernel
theorem dX7_layLine_109 : decode cX7_layLine 109 = .ok (.aload_n 0, 1) := by decide +kernel
theorem dX7_layLine_110 : decode cX7_layLine 110 = .ok (.getfield 25, 3) := by decide +kernel
theorem dX7_layLine_113 : decode cX7_layLine 113 = .ok (.aload_n 0, 1) := by decide +kernel
theorem dX7_layLine_114 : decode cX7_layLine 114 = .ok (.getfield 106, 3) := by decide +kernel
theorem dX7_layLine_117 : decode cX7_layLine 117 = .ok (.iload_n 1, 1) := by decide +kernel
theorem dX7_layLine_118 : decode cX7_layLine 118 = .ok (.iastore, 1) := by decide +kernel
theorem dX7_layLine_119 : decode cX7_layLine 119 = .ok (.aload_n 0, 1) := by decide +kernel
theorem dX7_layLine_120 : decode cX7_layLine 120 = .ok (.getfield 28, 3) := by decide +kernel
theorem dX7_layLine_123 : decode cX7_layLine 123 = .ok (.aload_n 0, 1) := by decide +kernel
theorem dX7_layLine_124 : decode cX7_layLine 124 = .ok (.getfield 106, 3) := by decide +kernel
theorem dX7_layLine_127 : decode cX7_layLine 127 = .ok (.iload_n 2, 1) := by decide +kernel
theorem dX7_layLine_128 : decode cX7_layLine 128 = .ok (.iastore, 1) := by decide +kernel
theorem dX7_layLine_129 : decode cX7_layLine 129 = .ok (.aload_n 0, 1) := by decide +kernel
theorem dX7_layLine_130 : decode cX7_layLine 130 = .ok (.getfield 31, 3) := by decide +kernel
theorem dX7_layLine_133 : decode cX7_layLine 133 = .ok (.aload_n 0, 1) := by decide +kernel
theorem dX7_layLine_134 : decode cX7_layLine 134 = .ok (.getfield 106, 3) := by decide +kernel
theorem dX7_layLine_137 : decode cX7_layLine 137 = .ok (.aload_n 0, 1) := by decide +kernel
theorem dX7_layLine_138 : decode cX7_layLine 138 = .ok (.getfield 109, 3) := by decide +kernel
theorem dX7_layLine_141 : decode cX7_layLine 141 = .ok (.iastore, 1) := by decide +kernel
theorem dX7_layLine_142 : decode cX7_layLine 142 = .ok (.iconst 0, 1) := by decide +kernel
theorem dX7_layLine_143 : decode cX7_layLine 143 = .ok (.istore 7, 2) := by decide +kernel
theorem dX7_layLine_145 : decode cX7_layLine 145 = .ok (.iload 7, 2) := by decide +kernel
theorem dX7_layLine_147 : decode cX7_layLine 147 = .ok (.iload 6, 2) := by decide +kernel
theorem dX7_layLine_149 : decode cX7_layLine 149 = .ok (.if_icmp .ge 49, 3) := by decide +kernel
theorem dX7_layLine_152 : decode cX7_layLine 152 = .ok (.aload_n 0, 1) := by decide +kernel
theorem dX7_layLine_153 : decode cX7_layLine 153 = .ok (.getfield 34, 3) := by decide +kernel
theorem dX7_layLine_156 : decode cX7_layLine 156 = .ok (.aload_n 0, 1) := by decide +kernel
theorem dX7_layLine_157 : decode cX7_layLine 157 = .ok (.getfield 109, 3) := by decide +kernel
theorem dX7_layLine_160 : decode cX7_layLine 160 = .ok (.iload 5, 2) := by decide +kernel
theorem dX7_layLine_162 : decode cX7_layLine 162 = .ok (.iload 6, 2) := by decide +kernel
theorem dX7_layLine_164 : decode cX7_layLine 164 = .ok (.idiv, 1) := by decide +kernel
theorem dX7_layLine_165 : decode cX7_layLine 165 = .ok (.iload 7, 2) := by decide +kernel
theorem dX7_layLine_167 : decode cX7_layLine 167 = .ok (.iload 5, 2) := by decide +kernel
theorem dX7_layLine_169 : decode cX7_layLine 169 = .ok (.iload 6, 2) := by decide +kernel
theorem dX7_layLine_171 : decode cX7_layLine 171 = .ok (.irem, 1) := by decide +kernel
theorem dX7_layLine_172 : decode cX7_layLine 172 = .ok (.if_icmp .ge 7, 3) := by decide +kernel
theorem dX7_layLine_175 : decode cX7_layLine 175 = .ok (.iconst 1, 1) := by decide +kernel
theorem dX7_layLine_176 : decode cX7_layLine 176 = .ok (.goto 4, 3) := by decide +kernel
theorem dX7_layLine_179 : decode cX7_layLine 179 = .ok (.iconst 0, 1) := by decide +kernel
theorem dX7_layLine_180 : decode cX7_layLine 180 = .ok (.iadd, 1) := by decide +kernel
theorem dX7_layLine_181 : decode cX7_layLine 181 = .ok (.iastore, 1) := by decide +kernel
theorem dX7_layLine_182 : decode cX7_layLine 182 = .ok (.aload_n 0, 1) := by decide +kernel
theorem dX7_layLine_183 : decode cX7_layLine 183 = .ok (.dup, 1) := by decide +kernel
theorem dX7_layLine_184 : decode cX7_layLine 184 = .ok (.getfield 109, 3) := by decide +kernel
theorem dX7_layLine_187 : decode cX7_layLine 187 = .ok (.iconst 1, 1) := by decide +kernel
theorem dX7_layLine_188 : decode cX7_layLine 188 = .ok (.iadd, 1) := by decide +kernel
theorem dX7_layLine_189 : decode cX7_layLine 189 = .ok (.putfield 109, 3) := by decide +kernel
theorem dX7_layLine_192 : decode cX7_layLine 192 = .ok (.iinc 7 1, 3) := by decide +kernel
theorem dX7_layLine_195 : decode cX7_layLine 195 = .ok (.goto (-50), 3) := by decide +kernel
theorem dX7_layLine_198 : decode cX7_layLine 198 = .ok (.aload_n 0, 1) := by decide +kernel
theorem dX7_layLine_199 : decode cX7_layLine 199 = .ok (.dup, 1) := by decide +kernel
theorem dX7_layLine_200 : decode cX7_layLine 200 = .ok (.getfield 106, 3) := by decide +kernel
theorem dX7_layLine_203 : decode cX7_layLine 203 = .ok (.iconst 1, 1) := by decide +kernel
theorem dX7_layLine_204 : decode cX7_layLine 204 = .ok (.iadd, 1) := by decide +kernel
theorem dX7_layLine_205 : decode cX7_layLine 205 = .ok (.putfield 106, 3) := by decide +kernel
theorem dX7_layLine_208 : decode cX7_layLine 208 = .ok (.aload_n 0, 1) := by decide +kernel
theorem dX7_layLine_209 : decode cX7_layLine 209 = .ok (.getfield 31, 3) := by decide +kernel
theorem dX7_layLine_212 : decode cX7_layLine 212 = .ok (.aload_n 0, 1) := by decide +kernel
theorem dX7_layLine_213 : decode cX7_layLine 213 = .ok (.getfield 106, 3) := by decide +kernel
theorem dX7_layLine_216 : decode cX7_layLine 216 = .ok (.aload_n 0, 1) := by decide +kernel
theorem dX7_layLine_217 : decode cX7_layLine 217 = .ok (.getfield 109, 3) := by decide +kernel
theorem dX7_layLine_220 : decode cX7_layLine 220 = .ok (.iastore, 1) := by decide +kernel
theorem dX7_layLine_221 : decode cX7_layLine 221 = .ok (.return_, 1) := by decide +kernel
def rm_X7_layLine : Room := { frames := 2, cells := 0, slots := 0, locals := 42 }
set_option maxRecDepth 100000 in
set_option maxHeartbeats 4000000 in
theorem ok_X7_layLine_62 {E : Ev} {X : Xt} {l0 : Launch} {K : Hp → Prop} {C9 : Nat → Int32 → Int32 → Int32 → Int32 → Int32 → Hp → Prop} (hC : Cx E X l0 RX7 cX7_layLine 8 rm_X7_layLine) (hQ : CQ E X "layLine" none rm_X7_layLine (KV K)) (hC9 : ∀ (a0 : Nat) (a1 : Int32) (a2 : Int32) (a4 : Int32) (a5 : Int32) (a6 : Int32) (h : Hp), C9 a0 a1 a2 a4 a5 a6 h → WW E X h 0 0 9 [some (rv a0), some (.int a1), some (.int a2), none, some (.int a4), some (.int a5), some (.int a6), none] []) (a0 : Nat) (a1 : Int32) (a2 : Int32) (a4 : Int32) (a5 : Int32) (a6 : Int32) (h : Hp) (hV : V_X7_layLine_62 K C9 a0 a1 a2 a4 a5 a6 h) : WW E X h 0 0 62 [some (rv a0), some (.int a1), some (.int a2), none, some (.int a4), some (.int a5), some (.int a6), none] [] := by
  unfold V_X7_layLine_62 at hV
  refine r_iinc (v := 1) (lo1 := [some (rv a0), some (.int a1), some (.int a2), none, some (.int a4), some (.int a5), some (.int (a6 + 1)), none]) hC dX7_layLine_62 rfl (by decide) rfl ?_
  refine r_goto (tgt := 9) hC dX7_layLine_65 (by decide) ?_
  exact hC9 a0 a1 a2 a4 a5 (a6 + 1) h hV
set_option maxRecDepth 100000 in
set_option maxHeartbeats 4000000 in
theorem ok_X7_layLine_180 {E : Ev} {X : Xt} {l0 : Launch} {K : Hp → Prop} {C145 : Nat → Int32 → Int32 → Int32 → Hp → Prop} (hC : Cx E X l0 RX7 cX7_layLine 8 rm_X7_layLine) (hQ : CQ E X "layLine" none rm_X7_layLine (KV K)) (hC145 : ∀ (a0 : Nat) (a5 : Int32) (a6 : Int32) (a7 : Int32) (h : Hp), C145 a0 a5 a6 a7 h → WW E X h 0 0 145 [some (rv a0), none, none, none, none, some (.int a5), some (.int a6), some (.int a7)] []) (a0 : Nat) (a5 : Int32) (a6 : Int32) (a7 : Int32) (s0 : Nat) (s1 : Int32) (s2 : Int32) (s3 : Int32) (h : Hp) (hV : V_X7_layLine_180 K C145 a0 a5 a6 a7 s0 s1 s2 s3 h) : WW E X h 0 0 180 [some (rv a0), none, none, none, none, some (.int a5), some (.int a6), some (.int a7)] [.int s3, .int s2, .int s1, rv s0] := by
  unfold V_X7_layLine_180 at hV
  refine r_iadd hC dX7_layLine_180 ?_
  obtain ⟨k9, k8, hV⟩ := hV
  refine r_iast (kd := 75) hC dX7_layLine_181 (by decide) rfl k9 k8 (nmH (fun h1 k9 => ?_))
  replace hV := hV h1 k9
  refine r_aload_n hC dX7_layLine_182 rfl ?_
  refine r_dup hC dX7_layLine_183 (rv_cat _) ?_
  obtain ⟨k9, hV⟩ := hV
  refine r_getI hC dX7_layLine_184 fl_7_109 rf_7_11 lq_7 k9 ?_
  refine r_iconst (v := 1) hC dX7_layLine_187 (by decide) ?_
  refine r_iadd hC dX7_layLine_188 ?_
  obtain ⟨k9, hV⟩ := hV
  refine r_putI hC dX7_layLine_189 fl_7_109 ft_7 rfl rf_7_11 ty_7_11 lq_7 k9 (nmH (fun h2 k9 => ?_))
  replace hV := hV h2 k9
  refine r_iinc (v := 1) (lo1 := [some (rv a0), none, none, none, none, some (.int a5), some (.int a6), some (.int (a7 + 1))]) hC dX7_layLine_192 rfl (by decide) rfl ?_
  refine r_goto (tgt := 145) hC dX7_layLine_195 (by decide) ?_
  exact hC145 a0 a5 a6 (a7 + 1) h2 hV
set_option maxRecDepth 100000 in
set_option maxHeartbeats 4000000 in
theorem ok_X7_layLine_145 {E : Ev} {X : Xt} {l0 : Launch} {K : Hp → Prop} (hC : Cx E X l0 RX7 cX7_layLine 8 rm_X7_layLine) (hQ : CQ E X "layLine" none rm_X7_layLine (KV K)) : ∀ (n : Nat) (a0 : Nat) (a5 : Int32) (a6 : Int32) (a7 : Int32) (h : Hp), V_X7_layLine_145 K n a0 a5 a6 a7 h → WW E X h 0 0 145 [some (rv a0), none, none, none, none, some (.int a5), some (.int a6), some (.int a7)] [] := by
  intro n
  induction n with
  | zero => intro a0 a5 a6 a7 h hV; exact hV.elim
  | succ n ih =>
    intro a0 a5 a6 a7 h hV
    unfold V_X7_layLine_145 at hV
    refine r_iload hC dX7_layLine_145 rfl ?_
    refine r_iload hC dX7_layLine_147 rfl ?_
    refine r_icmp_ge (tgt := 198) hC dX7_layLine_149 (by decide) (fun k9 => ?_) (fun k9 => ?_)
    · replace hV := hV.1 k9
      refine r_aload_n hC dX7_layLine_198 rfl ?_
      refine r_dup hC dX7_layLine_199 (rv_cat _) ?_
      obtain ⟨k9, hV⟩ := hV
      refine r_getI hC dX7_layLine_200 fl_7_106 rf_7_9 lq_7 k9 ?_
      refine r_iconst (v := 1) hC dX7_layLine_203 (by decide) ?_
      refine r_iadd hC dX7_layLine_204 ?_
      obtain ⟨k9, hV⟩ := hV
      refine r_putI hC dX7_layLine_205 fl_7_106 ft_7 rfl rf_7_9 ty_7_9 lq_7 k9 (nmH (fun h1 k9 => ?_))
      replace hV := hV h1 k9
      refine r_aload_n hC dX7_layLine_208 rfl ?_
      obtain ⟨k9, hV⟩ := hV
      refine r_getR hC dX7_layLine_209 fl_7_31 rf_7_14 lq_7 k9 ?_
      refine r_aload_n hC dX7_layLine_212 rfl ?_
      obtain ⟨k9, hV⟩ := hV
      refine r_getI hC dX7_layLine_213 fl_7_106 rf_7_9 lq_7 k9 ?_
      refine r_aload_n hC dX7_layLine_216 rfl ?_
      obtain ⟨k9, hV⟩ := hV
      refine r_getI hC dX7_layLine_217 fl_7_109 rf_7_11 lq_7 k9 ?_
      obtain ⟨k9, k8, hV⟩ := hV
      refine r_iast (kd := 74) hC dX7_layLine_220 (by decide) rfl k9 k8 (nmH (fun h2 k9 => ?_))
      replace hV := hV h2 k9
      exact r_vret hC hQ dX7_layLine_221 (Nat.le_of_ble_eq_true rfl) (Nat.le_of_ble_eq_true rfl) ⟨rfl, hV⟩
    · replace hV := hV.2 k9
      refine r_aload_n hC dX7_layLine_152 rfl ?_
      obtain ⟨k9, hV⟩ := hV
      refine r_getR hC dX7_layLine_153 fl_7_34 rf_7_15 lq_7 k9 ?_
      refine r_aload_n hC dX7_layLine_156 rfl ?_
      obtain ⟨k9, hV⟩ := hV
      refine r_getI hC dX7_layLine_157 fl_7_109 rf_7_11 lq_7 k9 ?_
      refine r_iload hC dX7_layLine_160 rfl ?_
      refine r_iload hC dX7_layLine_162 rfl ?_
      obtain ⟨k9, hV⟩ := hV
      refine r_idiv hC dX7_layLine_164 k9 ?_
      refine r_iload hC dX7_layLine_165 rfl ?_
      refine r_iload hC dX7_layLine_167 rfl ?_
      refine r_iload hC dX7_layLine_169 rfl ?_
      obtain ⟨k9, hV⟩ := hV
      refine r_irem hC dX7_layLine_171 k9 ?_
      refine r_icmp_ge (tgt := 179) hC dX7_layLine_172 (by decide) (fun k9 => ?_) (fun k9 => ?_)
      · replace hV := hV.1 k9
        refine r_iconst (v := 0) hC dX7_layLine_179 (by decide) ?_
        exact ok_X7_layLine_180 hC hQ ih a0 a5 a6 a7 (hR h a0 15) (hI h a0 11) (a5 / a6) 0 h hV
      · replace hV := hV.2 k9
        refine r_iconst (v := 1) hC dX7_layLine_175 (by decide) ?_
        refine r_goto (tgt := 180) hC dX7_layLine_176 (by decide) ?_
        exact ok_X7_layLine_180 hC hQ ih a0 a5 a6 a7 (hR h a0 15) (hI h a0 11) (a5 / a6) 1 h hV
set_option maxRecDepth 100000 in
set_option maxHeartbeats 4000000 in
theorem ok_X7_layLine_107 {E : Ev} {X : Xt} {l0 : Launch} {K : Hp → Prop} (hC : Cx E X l0 RX7 cX7_layLine 8 rm_X7_layLine) (hQ : CQ E X "layLine" none rm_X7_layLine (KV K)) (a0 : Nat) (a1 : Int32) (a2 : Int32) (a5 : Int32) (s0 : Int32) (h : Hp) (hV : V_X7_layLine_107 K a0 a1 a2 a5 s0 h) : WW E X h 0 0 107 [some (rv a0), some (.int a1), some (.int a2), none, none, some (.int a5), none, none] [.int s0] := by
  unfold V_X7_layLine_107 at hV
  refine r_istore (lo1 := [some (rv a0), some (.int a1), some (.int a2), none, none, some (.int a5), some (.int s0), none]) hC dX7_layLine_107 (Nat.le_of_ble_eq_true rfl) rfl ?_
  refine r_aload_n hC dX7_layLine_109 rfl ?_
  obtain ⟨k9, hV⟩ := hV
  refine r_getR hC dX7_layLine_110 fl_7_25 rf_7_12 lq_7 k9 ?_
  refine r_aload_n hC dX7_layLine_113 rfl ?_
  obtain ⟨k9, hV⟩ := hV
  refine r_getI hC dX7_layLine_114 fl_7_106 rf_7_9 lq_7 k9 ?_
  refine r_iload_n hC dX7_layLine_117 rfl ?_
  obtain ⟨k9, k8, hV⟩ := hV
  refine r_iast (kd := 72) hC dX7_layLine_118 (by decide) rfl k9 k8 (nmH (fun h1 k9 => ?_))
  replace hV := hV h1 k9
  refine r_aload_n hC dX7_layLine_119 rfl ?_
  obtain ⟨k9, hV⟩ := hV
  refine r_getR hC dX7_layLine_120 fl_7_28 rf_7_13 lq_7 k9 ?_
  refine r_aload_n hC dX7_layLine_123 rfl ?_
  obtain ⟨k9, hV⟩ := hV
  refine r_getI hC dX7_layLine_124 fl_7_106 rf_7_9 lq_7 k9 ?_
  refine r_iload_n hC dX7_layLine_127 rfl ?_
  obtain ⟨k9, k8, hV⟩ := hV
  refine r_iast (kd := 73) hC dX7_layLine_128 (by decide) rfl k9 k8 (nmH (fun h2 k9 => ?_))
  replace hV := hV h2 k9
  refine r_aload_n hC dX7_layLine_129 rfl ?_
  obtain ⟨k9, hV⟩ := hV
  refine r_getR hC dX7_layLine_130 fl_7_31 rf_7_14 lq_7 k9 ?_
  refine r_aload_n hC dX7_layLine_133 rfl ?_
  obtain ⟨k9, hV⟩ := hV
  refine r_getI hC dX7_layLine_134 fl_7_106 rf_7_9 lq_7 k9 ?_
  refine r_aload_n hC dX7_layLine_137 rfl ?_
  obtain ⟨k9, hV⟩ := hV
  refine r_getI hC dX7_layLine_138 fl_7_109 rf_7_11 lq_7 k9 ?_
  obtain ⟨k9, k8, hV⟩ := hV
  refine r_iast (kd := 74) hC dX7_layLine_141 (by decide) rfl k9 k8 (nmH (fun h3 k9 => ?_))
  replace hV := hV h3 k9
  refine r_iconst (v := 0) hC dX7_layLine_142 (by decide) ?_
  refine r_istore (lo1 := [some (rv a0), some (.int a1), some (.int a2), none, none, some (.int a5), some (.int s0), some (.int 0)]) hC dX7_layLine_143 (Nat.le_of_ble_eq_true rfl) rfl ?_
  refine r_sub (lo1 := [some (rv a0), none, none, none, none, some (.int a5), some (.int s0), some (.int 0)]) ⟨Or.inr rfl, ⟨Or.inl rfl, ⟨Or.inl rfl, ⟨Or.inl rfl, ⟨Or.inl rfl, ⟨Or.inr rfl, ⟨Or.inr rfl, ⟨Or.inr rfl, trivial⟩⟩⟩⟩⟩⟩⟩⟩ ?_
  obtain ⟨n9, hV⟩ := hV
  exact ok_X7_layLine_145 hC hQ n9 a0 a5 s0 0 h3 hV
set_option maxRecDepth 100000 in
set_option maxHeartbeats 4000000 in
theorem ok_X7_layLine_90 {E : Ev} {X : Xt} {l0 : Launch} {K : Hp → Prop} (hC : Cx E X l0 RX7 cX7_layLine 8 rm_X7_layLine) (hQ : CQ E X "layLine" none rm_X7_layLine (KV K)) (a0 : Nat) (a1 : Int32) (a2 : Int32) (a4 : Int32) (a5 : Int32) (s0 : Nat) (s1 : Int32) (h : Hp) (hV : V_X7_layLine_90 K a0 a1 a2 a4 a5 s0 s1 h) : WW E X h 0 0 90 [some (rv a0), some (.int a1), some (.int a2), none, some (.int a4), some (.int a5), none, none] [.int s1, rv s0] := by
  unfold V_X7_layLine_90 at hV
  obtain ⟨k9, hV⟩ := hV
  obtain ⟨k8, hV⟩ := hV
  refine r_putZ hC dX7_layLine_90 fl_7_102 ft_7 rfl rf_7_16 ty_7_16 lq_7 k9 k8 (nmH (fun h1 k9 => ?_))
  replace hV := hV h1 k9
  refine r_iload hC dX7_layLine_93 rfl ?_
  refine r_iconst (v := 1) hC dX7_layLine_95 (by decide) ?_
  refine r_icmp_le (tgt := 106) hC dX7_layLine_96 (by decide) (fun k9 => ?_) (fun k9 => ?_)
  · replace hV := hV.1 k9
    refine r_iconst (v := 1) hC dX7_layLine_106 (by decide) ?_
    refine r_sub (lo1 := [some (rv a0), some (.int a1), some (.int a2), none, none, some (.int a5), none, none]) ⟨Or.inr rfl, ⟨Or.inr rfl, ⟨Or.inr rfl, ⟨Or.inl rfl, ⟨Or.inl rfl, ⟨Or.inr rfl, ⟨Or.inl rfl, ⟨Or.inl rfl, trivial⟩⟩⟩⟩⟩⟩⟩⟩ ?_
    exact ok_X7_layLine_107 hC hQ a0 a1 a2 a5 1 h1 hV
  · replace hV := hV.2 k9
    refine r_iload hC dX7_layLine_99 rfl ?_
    refine r_iconst (v := 1) hC dX7_layLine_101 (by decide) ?_
    refine r_isub hC dX7_layLine_102 ?_
    refine r_goto (tgt := 107) hC dX7_layLine_103 (by decide) ?_
    refine r_sub (lo1 := [some (rv a0), some (.int a1), some (.int a2), none, none, some (.int a5), none, none]) ⟨Or.inr rfl, ⟨Or.inr rfl, ⟨Or.inr rfl, ⟨Or.inl rfl, ⟨Or.inl rfl, ⟨Or.inr rfl, ⟨Or.inl rfl, ⟨Or.inl rfl, trivial⟩⟩⟩⟩⟩⟩⟩⟩ ?_
    exact ok_X7_layLine_107 hC hQ a0 a1 a2 a5 (a4 - 1) h1 hV
set_option maxRecDepth 100000 in
set_option maxHeartbeats 4000000 in
theorem ok_X7_layLine_85 {E : Ev} {X : Xt} {l0 : Launch} {K : Hp → Prop} (hC : Cx E X l0 RX7 cX7_layLine 8 rm_X7_layLine) (hQ : CQ E X "layLine" none rm_X7_layLine (KV K)) (a0 : Nat) (a1 : Int32) (a2 : Int32) (a4 : Int32) (a5 : Int32) (s0 : Nat) (h : Hp) (hV : V_X7_layLine_85 K a0 a1 a2 a4 a5 s0 h) : WW E X h 0 0 85 [some (rv a0), some (.int a1), some (.int a2), none, some (.int a4), some (.int a5), none, none] [rv s0] := by
  unfold V_X7_layLine_85 at hV
  refine r_iconst (v := 1) hC dX7_layLine_85 (by decide) ?_
  refine r_goto (tgt := 90) hC dX7_layLine_86 (by decide) ?_
  exact ok_X7_layLine_90 hC hQ a0 a1 a2 a4 a5 s0 1 h hV
set_option maxRecDepth 100000 in
set_option maxHeartbeats 4000000 in
theorem ok_X7_layLine_9 {E : Ev} {X : Xt} {l0 : Launch} {K : Hp → Prop} (hC : Cx E X l0 RX7 cX7_layLine 8 rm_X7_layLine) (hQ : CQ E X "layLine" none rm_X7_layLine (KV K)) : ∀ (n : Nat) (a0 : Nat) (a1 : Int32) (a2 : Int32) (a4 : Int32) (a5 : Int32) (a6 : Int32) (h : Hp), V_X7_layLine_9 K n a0 a1 a2 a4 a5 a6 h → WW E X h 0 0 9 [some (rv a0), some (.int a1), some (.int a2), none, some (.int a4), some (.int a5), some (.int a6), none] [] := by
  intro n
  induction n with
  | zero => intro a0 a1 a2 a4 a5 a6 h hV; exact hV.elim
  | succ n ih =>
    intro a0 a1 a2 a4 a5 a6 h hV
    unfold V_X7_layLine_9 at hV
    refine r_iload hC dX7_layLine_9 rfl ?_
    refine r_iload_n hC dX7_layLine_11 rfl ?_
    refine r_icmp_ge (tgt := 68) hC dX7_layLine_12 (by decide) (fun k9 => ?_) (fun k9 => ?_)
    · replace hV := hV.1 k9
      refine r_aload_n hC dX7_layLine_68 rfl ?_
      refine r_aload_n hC dX7_layLine_69 rfl ?_
      obtain ⟨k9, hV⟩ := hV
      refine r_getI hC dX7_layLine_70 fl_7_102 rf_7_16 lq_7 k9 ?_
      refine r_if_ne (tgt := 85) hC dX7_layLine_73 (by decide) (fun k9 => ?_) (fun k9 => ?_)
      · replace hV := hV.1 k9
        refine r_sub (lo1 := [some (rv a0), some (.int a1), some (.int a2), none, some (.int a4), some (.int a5), none, none]) ⟨Or.inr rfl, ⟨Or.inr rfl, ⟨Or.inr rfl, ⟨Or.inl rfl, ⟨Or.inr rfl, ⟨Or.inr rfl, ⟨Or.inl rfl, ⟨Or.inl rfl, trivial⟩⟩⟩⟩⟩⟩⟩⟩ ?_
        exact ok_X7_layLine_85 hC hQ a0 a1 a2 a4 a5 a0 h hV
      · replace hV := hV.2 k9
        refine r_iload hC dX7_layLine_76 rfl ?_
        refine r_iload hC dX7_layLine_78 rfl ?_
        refine r_iconst (v := 1) hC dX7_layLine_80 (by decide) ?_
        refine r_isub hC dX7_layLine_81 ?_
        refine r_icmp_ge (tgt := 89) hC dX7_layLine_82 (by decide) (fun k9 => ?_) (fun k9 => ?_)
        · replace hV := hV.1 k9
          refine r_iconst (v := 0) hC dX7_layLine_89 (by decide) ?_
          refine r_sub (lo1 := [some (rv a0), some (.int a1), some (.int a2), none, some (.int a4), some (.int a5), none, none]) ⟨Or.inr rfl, ⟨Or.inr rfl, ⟨Or.inr rfl, ⟨Or.inl rfl, ⟨Or.inr rfl, ⟨Or.inr rfl, ⟨Or.inl rfl, ⟨Or.inl rfl, trivial⟩⟩⟩⟩⟩⟩⟩⟩ ?_
          exact ok_X7_layLine_90 hC hQ a0 a1 a2 a4 a5 a0 0 h hV
        · replace hV := hV.2 k9
          refine r_sub (lo1 := [some (rv a0), some (.int a1), some (.int a2), none, some (.int a4), some (.int a5), none, none]) ⟨Or.inr rfl, ⟨Or.inr rfl, ⟨Or.inr rfl, ⟨Or.inl rfl, ⟨Or.inr rfl, ⟨Or.inr rfl, ⟨Or.inl rfl, ⟨Or.inl rfl, trivial⟩⟩⟩⟩⟩⟩⟩⟩ ?_
          exact ok_X7_layLine_85 hC hQ a0 a1 a2 a4 a5 a0 h hV
    · replace hV := hV.2 k9
      refine r_aload_n hC dX7_layLine_15 rfl ?_
      obtain ⟨k9, hV⟩ := hV
      refine r_getR hC dX7_layLine_16 fl_7_22 rf_7_8 lq_7 k9 ?_
      refine r_iload hC dX7_layLine_19 rfl ?_
      obtain ⟨k9, k8, hV⟩ := hV
      refine r_iald (kd := 68) hC dX7_layLine_21 (by decide) rfl k9 k8 ?_
      refine r_callS (As := [.int (hI h (hR h a0 8) (ix a6))]) hC dX7_layLine_22 rfl cf_X7_isLetter ml_7_96 st_X7_isLetter rfl ⟨Nat.le_of_ble_eq_true rfl, Nat.le_of_ble_eq_true rfl, Nat.le_of_ble_eq_true rfl, Nat.le_of_ble_eq_true rfl⟩ cs0 (Nat.le_of_ble_eq_true rfl) (con_X7_isLetter (hI h (hR h a0 8) (ix a6)) h _ hV) rfl (kI (k := 0) (n := 0) (fun r1 h1 hV => ?_))
      refine r_if_eq (tgt := 59) hC dX7_layLine_25 (by decide) (fun k9 => ?_) (fun k9 => ?_)
      · replace hV := hV.1 k9
        refine r_iinc (v := 1) (lo1 := [some (rv a0), some (.int a1), some (.int a2), none, some (.int (a4 + 1)), some (.int a5), some (.int a6), none]) hC dX7_layLine_59 rfl (by decide) rfl ?_
        exact ok_X7_layLine_62 hC hQ ih a0 a1 a2 (a4 + 1) a5 a6 h1 hV
      · replace hV := hV.2 k9
        refine r_iload hC dX7_layLine_28 rfl ?_
        refine r_aload_n hC dX7_layLine_30 rfl ?_
        obtain ⟨k9, hV⟩ := hV
        refine r_getR hC dX7_layLine_31 fl_7_22 rf_7_8 lq_7 k9 ?_
        refine r_iload hC dX7_layLine_34 rfl ?_
        obtain ⟨k9, k8, hV⟩ := hV
        refine r_iald (kd := 68) hC dX7_layLine_36 (by decide) rfl k9 k8 ?_
        refine r_bipush (v := 97) hC dX7_layLine_37 (by decide) ?_
        refine r_isub hC dX7_layLine_39 ?_
        refine r_callS (As := [.int ((hI h1 (hR h1 a0 8) (ix a6)) - 97)]) hC dX7_layLine_40 rfl cf_X7_width ml_7_68 st_X7_width rfl ⟨Nat.le_of_ble_eq_true rfl, Nat.le_of_ble_eq_true rfl, Nat.le_of_ble_eq_true rfl, Nat.le_of_ble_eq_true rfl⟩ (csI cs0) (Nat.le_of_ble_eq_true rfl) (con_X7_width ((hI h1 (hR h1 a0 8) (ix a6)) - 97) h1 _ hV) rfl (kI (k := 0) (n := 0) (fun r2 h2 hV => ?_))
        refine r_isub hC dX7_layLine_43 ?_
        refine r_istore (lo1 := [some (rv a0), some (.int a1), some (.int a2), none, some (.int a4), some (.int (a5 - r2)), some (.int a6), none]) hC dX7_layLine_44 (Nat.le_of_ble_eq_true rfl) rfl ?_
        refine r_aload_n hC dX7_layLine_46 rfl ?_
        refine r_dup hC dX7_layLine_47 (rv_cat _) ?_
        obtain ⟨k9, hV⟩ := hV
        refine r_getI hC dX7_layLine_48 fl_7_99 rf_7_10 lq_7 k9 ?_
        refine r_iconst (v := 1) hC dX7_layLine_51 (by decide) ?_
        refine r_iadd hC dX7_layLine_52 ?_
        obtain ⟨k9, hV⟩ := hV
        refine r_putI hC dX7_layLine_53 fl_7_99 ft_7 rfl rf_7_10 ty_7_10 lq_7 k9 (nmH (fun h3 k9 => ?_))
        replace hV := hV h3 k9
        refine r_goto (tgt := 62) hC dX7_layLine_56 (by decide) ?_
        exact ok_X7_layLine_62 hC hQ ih a0 a1 a2 a4 (a5 - r2) a6 h3 hV
set_option maxRecDepth 100000 in
set_option maxHeartbeats 4000000 in
theorem ok_X7_layLine_0 {E : Ev} {X : Xt} {l0 : Launch} {K : Hp → Prop} (hC : Cx E X l0 RX7 cX7_layLine 8 rm_X7_layLine) (hQ : CQ E X "layLine" none rm_X7_layLine (KV K)) (a0 : Nat) (a1 : Int32) (a2 : Int32) (a3 : Int32) (h : Hp) (hV : V_X7_layLine a0 a1 a2 a3 h K) : WW E X h 0 0 0 [some (rv a0), some (.int a1), some (.int a2), some (.int a3), none, none, none, none] [] := by
  unfold V_X7_layLine at hV
  refine r_iconst (v := 1) hC dX7_layLine_0 (by decide) ?_
  refine r_istore (lo1 := [some (rv a0), some (.int a1), some (.int a2), some (.int a3), some (.int 1), none, none, none]) hC dX7_layLine_1 (Nat.le_of_ble_eq_true rfl) rfl ?_
  refine r_iload_n hC dX7_layLine_3 rfl ?_
  refine r_istore (lo1 := [some (rv a0), some (.int a1), some (.int a2), some (.int a3), some (.int 1), some (.int a3), none, none]) hC dX7_layLine_4 (Nat.le_of_ble_eq_true rfl) rfl ?_
  refine r_iload_n hC dX7_layLine_6 rfl ?_
  refine r_istore (lo1 := [some (rv a0), some (.int a1), some (.int a2), some (.int a3), some (.int 1), some (.int a3), some (.int a1), none]) hC dX7_layLine_7 (Nat.le_of_ble_eq_true rfl) rfl ?_
  refine r_sub (lo1 := [some (rv a0), some (.int a1), some (.int a2), none, some (.int 1), some (.int a3), some (.int a1), none]) ⟨Or.inr rfl, ⟨Or.inr rfl, ⟨Or.inr rfl, ⟨Or.inl rfl, ⟨Or.inr rfl, ⟨Or.inr rfl, ⟨Or.inr rfl, ⟨Or.inl rfl, trivial⟩⟩⟩⟩⟩⟩⟩⟩ ?_
  obtain ⟨n9, hV⟩ := hV
  exact ok_X7_layLine_9 hC hQ n9 a0 a1 a2 1 a3 a1 h hV
set_option maxRecDepth 100000 in
set_option maxHeartbeats 4000000 in
theorem con_X7_layLine {E : Ev} {l0 : Launch} (a0 : Nat) (a1 : Int32) (a2 : Int32) (a3 : Int32) (h : Hp) (K : Hp → Prop) (hV : V_X7_layLine a0 a1 a2 a3 h K) : Con E l0 yX7_layLine cX7_layLine 8 none rm_X7_layLine [rv a0, .int a1, .int a2, .int a3] h (KV K) := by
  refine Con.of (by decide +kernel) (cat_R (cat_I (cat_I (cat_I cat_nil)))) (Nat.le_of_ble_eq_true rfl) (fun X hC hQ => ?_)
  refine r_sub (lo1 := [some (rv a0), some (.int a1), some (.int a2), some (.int a3), none, none, none, none]) (show lsub [some (rv a0), some (.int a1), some (.int a2), some (.int a3), none, none, none, none] _ from ⟨Or.inr rfl, ⟨Or.inr rfl, ⟨Or.inr rfl, ⟨Or.inr rfl, ⟨Or.inr rfl, ⟨Or.inr rfl, ⟨Or.inr rfl, ⟨Or.inr rfl, trivial⟩⟩⟩⟩⟩⟩⟩⟩) ?_
  exact ok_X7_layLine_0 hC hQ a0 a1 a2 a3 h hV
theorem dX7_layLines_0 : decode cX7_layLines 0 = .ok (.aload_n 0, 1) := by decide +kernel
theorem dX7_layLines_1 : decode cX7_layLines 1 = .ok (.iconst 0, 1) := by decide +kernel
theorem dX7_layLines_2 : decode cX7_layLines 2 = .ok (.putfield 106, 3) := by decide +kernel
theorem dX7_layLines_5 : decode cX7_layLines 5 = .ok (.aload_n 0, 1) := by decide +kernel
theorem dX7_layLines_6 : decode cX7_layLines 6 = .ok (.iconst 0, 1) := by decide +kernel
theorem dX7_layLines_7 : decode cX7_layLines 7 = .ok (.putfield 99, 3) := by decide +kernel
theorem dX7_layLines_10 : decode cX7_layLines 10 = .ok (.aload_n 0, 1) := by decide +kernel
theorem dX7_layLines_11 : decode cX7_layLines 11 = .ok (.iconst 0, 1) := by decide +kernel
theorem dX7_layLines_12 : decode cX7_layLines 12 = .ok (.putfield 109, 3) := by decide +kernel
theorem dX7_layLines_15 : decode cX7_layLines 15 = .ok (.aload_n 0, 1) := by decide +kernel
theorem dX7_layLines_16 : decode cX7_layLines 16 = .ok (.iconst 0, 1) := by decide +kernel
theorem dX7_layLines_17 : decode cX7_layLines 17 = .ok (.putfield 102, 3) := by decide +kernel
theorem dX7_layLines_20 : decode cX7_layLines 20 = .ok (.iconst 0, 1) := by decide +kernel
theorem dX7_layLines_21 : decode cX7_layLines 21 = .ok (.istore_n 2, 1) := by decide +kernel
theorem dX7_layLines_22 : decode cX7_layLines 22 = .ok (.iconst 0, 1) := by decide +kernel
theorem dX7_layLines_23 : decode cX7_layLines 23 = .ok (.istore_n 3, 1) := by decide +kernel
theorem dX7_layLines_24 : decode cX7_layLines 24 = .ok (.iload_n 3, 1) := by decide +kernel
theorem dX7_layLines_25 : decode cX7_layLines 25 = .ok (.aload_n 0, 1) := by decide +kernel
theorem dX7_layLines_26 : decode cX7_layLines 26 = .ok (.getfield 112, 3) := by decide +kernel
theorem dX7_layLines_29 : decode cX7_layLines 29 = .ok (.if_icmp .gt 39, 3) := by decide +kernel
theorem dX7_layLines_32 : decode cX7_layLines 32 = .ok (.iload_n 3, 1) := by decide +kernel
theorem dX7_layLines_33 : decode cX7_layLines 33 = .ok (.aload_n 0, 1) := by decide +kernel
theorem dX7_layLines_34 : decode cX7_layLines 34 = .ok (.getfield 112, 3) := by decide +kernel
theorem dX7_layLines_37 : decode cX7_layLines 37 = .ok (.if_icmp .eq 14, 3) := by decide +kernel
theorem dX7_layLines_40 : decode cX7_layLines 40 = .ok (.aload_n 0, 1) := by decide +kernel
theorem dX7_layLines_41 : decode cX7_layLines 41 = .ok (.getfield 22, 3) := by decide +kernel
theorem dX7_layLines_44 : decode cX7_layLines 44 = .ok (.iload_n 3, 1) := by decide +kernel
theorem dX7_layLines_45 : decode cX7_layLines 45 = .ok (.iaload, 1) := by decide +kernel
theorem dX7_layLines_46 : decode cX7_layLines 46 = .ok (.bipush 47, 2) := by decide +kernel
theorem dX7_layLines_48 : decode cX7_layLines 48 = .ok (.if_icmp .ne 14, 3) := by decide +kernel
theorem dX7_layLines_51 : decode cX7_layLines 51 = .ok (.aload_n 0, 1) := by decide +kernel
theorem dX7_layLines_52 : decode cX7_layLines 52 = .ok (.iload_n 2, 1) := by decide +kernel
theorem dX7_layLines_53 : decode cX7_layLines 53 = .ok (.iload_n 3, 1) := by decide +kernel
theorem dX7_layLines_54 : decode cX7_layLines 54 = .ok (.iload_n 1, 1) := by decide +kernel
theorem dX7_layLines_55 : decode cX7_layLines 55 = .ok (.invokevirtual 115, 3) := by decide +kernel
theorem dX7_layLines_58 : decode cX7_layLines 58 = .ok (.iload_n 3, 1) := by decide +kernel
theorem dX7_layLines_59 : decode cX7_layLines 59 = .ok (.iconst 1, 1) := by decide +kernel
theorem dX7_layLines_60 : decode cX7_layLines 60 = .ok (.iadd, 1) := by decide +kernel
theorem dX7_layLines_61 : decode cX7_layLines 61 = .ok (.istore_n 2, 1) := by decide +kernel
theorem dX7_layLines_62 : decode cX7_layLines 62 = .ok (.iinc 3 1, 3) := by decide +kernel
theorem dX7_layLines_65 : decode cX7_layLines 65 = .ok (.goto (-41), 3) := by decide +kernel
theorem dX7_layLines_68 : decode cX7_layLines 68 = .ok (.return_, 1) := by decide +kernel
def rm_X7_layLines : Room := { frames := 3, cells := 0, slots := 0, locals := 69 }
set_option maxRecDepth 100000 in
set_option maxHeartbeats 4000000 in
theorem ok_X7_layLines_62 {E : Ev} {X : Xt} {l0 : Launch} {K : Hp → Prop} {C24 : Nat → Int32 → Int32 → Int32 → Hp → Prop} (hC : Cx E X l0 RX7 cX7_layLines 4 rm_X7_layLines) (hQ : CQ E X "layLines" none rm_X7_layLines (KV K)) (hC24 : ∀ (a0 : Nat) (a1 : Int32) (a2 : Int32) (a3 : Int32) (h : Hp), C24 a0 a1 a2 a3 h → WW E X h 0 0 24 [some (rv a0), some (.int a1), some (.int a2), some (.int a3)] []) (a0 : Nat) (a1 : Int32) (a2 : Int32) (a3 : Int32) (h : Hp) (hV : V_X7_layLines_62 K C24 a0 a1 a2 a3 h) : WW E X h 0 0 62 [some (rv a0), some (.int a1), some (.int a2), some (.int a3)] [] := by
  unfold V_X7_layLines_62 at hV
  refine r_iinc (v := 1) (lo1 := [some (rv a0), some (.int a1), some (.int a2), some (.int (a3 + 1))]) hC dX7_layLines_62 rfl (by decide) rfl ?_
  refine r_goto (tgt := 24) hC dX7_layLines_65 (by decide) ?_
  exact hC24 a0 a1 a2 (a3 + 1) h hV
set_option maxRecDepth 100000 in
set_option maxHeartbeats 4000000 in
theorem ok_X7_layLines_51 {E : Ev} {X : Xt} {l0 : Launch} {K : Hp → Prop} {C24 : Nat → Int32 → Int32 → Int32 → Hp → Prop} (hC : Cx E X l0 RX7 cX7_layLines 4 rm_X7_layLines) (hQ : CQ E X "layLines" none rm_X7_layLines (KV K)) (hC24 : ∀ (a0 : Nat) (a1 : Int32) (a2 : Int32) (a3 : Int32) (h : Hp), C24 a0 a1 a2 a3 h → WW E X h 0 0 24 [some (rv a0), some (.int a1), some (.int a2), some (.int a3)] []) (a0 : Nat) (a1 : Int32) (a2 : Int32) (a3 : Int32) (h : Hp) (hV : V_X7_layLines_51 K C24 a0 a1 a2 a3 h) : WW E X h 0 0 51 [some (rv a0), some (.int a1), some (.int a2), some (.int a3)] [] := by
  unfold V_X7_layLines_51 at hV
  refine r_aload_n hC dX7_layLines_51 rfl ?_
  refine r_iload_n hC dX7_layLines_52 rfl ?_
  refine r_iload_n hC dX7_layLines_53 rfl ?_
  refine r_iload_n hC dX7_layLines_54 rfl ?_
  obtain ⟨k9, hV⟩ := hV
  refine r_callV (ci := 7) (As := [.int a2, .int a3, .int a1]) hC dX7_layLines_55 rfl cf_X7_layLine ml_7_115 im_X7_layLine sl_X7_layLine lq_7 rfl rfl k9 rfl ⟨Nat.le_of_ble_eq_true rfl, Nat.le_of_ble_eq_true rfl, Nat.le_of_ble_eq_true rfl, Nat.le_of_ble_eq_true rfl⟩ cs0 (Nat.le_of_ble_eq_true rfl) (con_X7_layLine a0 a2 a3 a1 h _ hV) rfl (kV (k := 0) (n := 0) (fun h1 hV => ?_))
  refine r_iload_n hC dX7_layLines_58 rfl ?_
  refine r_iconst (v := 1) hC dX7_layLines_59 (by decide) ?_
  refine r_iadd hC dX7_layLines_60 ?_
  refine r_istore_n (lo1 := [some (rv a0), some (.int a1), some (.int (a3 + 1)), some (.int a3)]) hC dX7_layLines_61 (Nat.le_of_ble_eq_true rfl) rfl ?_
  exact ok_X7_layLines_62 hC hQ hC24 a0 a1 (a3 + 1) a3 h1 hV
set_option maxRecDepth 100000 in
set_option maxHeartbeats 4000000 in
theorem ok_X7_layLines_24 {E : Ev} {X : Xt} {l0 : Launch} {K : Hp → Prop} (hC : Cx E X l0 RX7 cX7_layLines 4 rm_X7_layLines) (hQ : CQ E X "layLines" none rm_X7_layLines (KV K)) : ∀ (n : Nat) (a0 : Nat) (a1 : Int32) (a2 : Int32) (a3 : Int32) (h : Hp), V_X7_layLines_24 K n a0 a1 a2 a3 h → WW E X h 0 0 24 [some (rv a0), some (.int a1), some (.int a2), some (.int a3)] [] := by
  intro n
  induction n with
  | zero => intro a0 a1 a2 a3 h hV; exact hV.elim
  | succ n ih =>
    intro a0 a1 a2 a3 h hV
    unfold V_X7_layLines_24 at hV
    refine r_iload_n hC dX7_layLines_24 rfl ?_
    refine r_aload_n hC dX7_layLines_25 rfl ?_
    obtain ⟨k9, hV⟩ := hV
    refine r_getI hC dX7_layLines_26 fl_7_112 rf_7_7 lq_7 k9 ?_
    refine r_icmp_gt (tgt := 68) hC dX7_layLines_29 (by decide) (fun k9 => ?_) (fun k9 => ?_)
    · replace hV := hV.1 k9
      exact r_vret hC hQ dX7_layLines_68 (Nat.le_of_ble_eq_true rfl) (Nat.le_of_ble_eq_true rfl) ⟨rfl, hV⟩
    · replace hV := hV.2 k9
      refine r_iload_n hC dX7_layLines_32 rfl ?_
      refine r_aload_n hC dX7_layLines_33 rfl ?_
      obtain ⟨k9, hV⟩ := hV
      refine r_getI hC dX7_layLines_34 fl_7_112 rf_7_7 lq_7 k9 ?_
      refine r_icmp_eq (tgt := 51) hC dX7_layLines_37 (by decide) (fun k9 => ?_) (fun k9 => ?_)
      · replace hV := hV.1 k9
        exact ok_X7_layLines_51 hC hQ ih a0 a1 a2 a3 h hV
      · replace hV := hV.2 k9
        refine r_aload_n hC dX7_layLines_40 rfl ?_
        obtain ⟨k9, hV⟩ := hV
        refine r_getR hC dX7_layLines_41 fl_7_22 rf_7_8 lq_7 k9 ?_
        refine r_iload_n hC dX7_layLines_44 rfl ?_
        obtain ⟨k9, k8, hV⟩ := hV
        refine r_iald (kd := 68) hC dX7_layLines_45 (by decide) rfl k9 k8 ?_
        refine r_bipush (v := 47) hC dX7_layLines_46 (by decide) ?_
        refine r_icmp_ne (tgt := 62) hC dX7_layLines_48 (by decide) (fun k9 => ?_) (fun k9 => ?_)
        · replace hV := hV.1 k9
          exact ok_X7_layLines_62 hC hQ ih a0 a1 a2 a3 h hV
        · replace hV := hV.2 k9
          exact ok_X7_layLines_51 hC hQ ih a0 a1 a2 a3 h hV
set_option maxRecDepth 100000 in
set_option maxHeartbeats 4000000 in
theorem ok_X7_layLines_0 {E : Ev} {X : Xt} {l0 : Launch} {K : Hp → Prop} (hC : Cx E X l0 RX7 cX7_layLines 4 rm_X7_layLines) (hQ : CQ E X "layLines" none rm_X7_layLines (KV K)) (a0 : Nat) (a1 : Int32) (h : Hp) (hV : V_X7_layLines a0 a1 h K) : WW E X h 0 0 0 [some (rv a0), some (.int a1), none, none] [] := by
  unfold V_X7_layLines at hV
  refine r_aload_n hC dX7_layLines_0 rfl ?_
  refine r_iconst (v := 0) hC dX7_layLines_1 (by decide) ?_
  obtain ⟨k9, hV⟩ := hV
  refine r_putI hC dX7_layLines_2 fl_7_106 ft_7 rfl rf_7_9 ty_7_9 lq_7 k9 (nmH (fun h1 k9 => ?_))
  replace hV := hV h1 k9
  refine r_aload_n hC dX7_layLines_5 rfl ?_
  refine r_iconst (v := 0) hC dX7_layLines_6 (by decide) ?_
  obtain ⟨k9, hV⟩ := hV
  refine r_putI hC dX7_layLines_7 fl_7_99 ft_7 rfl rf_7_10 ty_7_10 lq_7 k9 (nmH (fun h2 k9 => ?_))
  replace hV := hV h2 k9
  refine r_aload_n hC dX7_layLines_10 rfl ?_
  refine r_iconst (v := 0) hC dX7_layLines_11 (by decide) ?_
  obtain ⟨k9, hV⟩ := hV
  refine r_putI hC dX7_layLines_12 fl_7_109 ft_7 rfl rf_7_11 ty_7_11 lq_7 k9 (nmH (fun h3 k9 => ?_))
  replace hV := hV h3 k9
  refine r_aload_n hC dX7_layLines_15 rfl ?_
  refine r_iconst (v := 0) hC dX7_layLines_16 (by decide) ?_
  obtain ⟨k9, hV⟩ := hV
  obtain ⟨k8, hV⟩ := hV
  refine r_putZ hC dX7_layLines_17 fl_7_102 ft_7 rfl rf_7_16 ty_7_16 lq_7 k9 k8 (nmH (fun h4 k9 => ?_))
  replace hV := hV h4 k9
  refine r_iconst (v := 0) hC dX7_layLines_20 (by decide) ?_
  refine r_istore_n (lo1 := [some (rv a0), some (.int a1), some (.int 0), none]) hC dX7_layLines_21 (Nat.le_of_ble_eq_true rfl) rfl ?_
  refine r_iconst (v := 0) hC dX7_layLines_22 (by decide) ?_
  refine r_istore_n (lo1 := [some (rv a0), some (.int a1), some (.int 0), some (.int 0)]) hC dX7_layLines_23 (Nat.le_of_ble_eq_true rfl) rfl ?_
  obtain ⟨n9, hV⟩ := hV
  exact ok_X7_layLines_24 hC hQ n9 a0 a1 0 0 h4 hV
set_option maxRecDepth 100000 in
set_option maxHeartbeats 4000000 in
theorem con_X7_layLines {E : Ev} {l0 : Launch} (a0 : Nat) (a1 : Int32) (h : Hp) (K : Hp → Prop) (hV : V_X7_layLines a0 a1 h K) : Con E l0 yX7_layLines cX7_layLines 4 none rm_X7_layLines [rv a0, .int a1] h (KV K) := by
  refine Con.of (by decide +kernel) (cat_R (cat_I cat_nil)) (Nat.le_of_ble_eq_true rfl) (fun X hC hQ => ?_)
  refine r_sub (lo1 := [some (rv a0), some (.int a1), none, none]) (show lsub [some (rv a0), some (.int a1), none, none] _ from ⟨Or.inr rfl, ⟨Or.inr rfl, ⟨Or.inr rfl, ⟨Or.inr rfl, trivial⟩⟩⟩⟩) ?_
  exact ok_X7_layLines_0 hC hQ a0 a1 h hV
theorem dX7_layJob_0 : decode cX7_layJob 0 = .ok (.aload_n 0, 1) := by decide +kernel
theorem dX7_layJob_1 : decode cX7_layJob 1 = .ok (.aload_n 0, 1) := by decide +kernel
theorem dX7_layJob_2 : decode cX7_layJob 2 = .ok (.iload_n 1, 1) := by decide +kernel
theorem dX7_layJob_3 : decode cX7_layJob 3 = .ok (.bipush 6, 2) := by decide +kernel
theorem dX7_layJob_5 : decode cX7_layJob 5 = .ok (.invokevirtual 60, 3) := by decide +kernel
theorem dX7_layJob_8 : decode cX7_layJob 8 = .ok (.putfield 112, 3) := by decide +kernel
theorem dX7_layJob_11 : decode cX7_layJob 11 = .ok (.iconst 0, 1) := by decide +kernel
theorem dX7_layJob_12 : decode cX7_layJob 12 = .ok (.istore_n 2, 1) := by decide +kernel
theorem dX7_layJob_13 : decode cX7_layJob 13 = .ok (.iload_n 2, 1) := by decide +kernel
theorem dX7_layJob_14 : decode cX7_layJob 14 = .ok (.aload_n 0, 1) := by decide +kernel
theorem dX7_layJob_15 : decode cX7_layJob 15 = .ok (.getfield 112, 3) := by decide +kernel
theorem dX7_layJob_18 : decode cX7_layJob 18 = .ok (.if_icmp .ge 24, 3) := by decide +kernel
theorem dX7_layJob_21 : decode cX7_layJob 21 = .ok (.aload_n 0, 1) := by decide +kernel
theorem dX7_layJob_22 : decode cX7_layJob 22 = .ok (.getfield 22, 3) := by decide +kernel
theorem dX7_layJob_25 : decode cX7_layJob 25 = .ok (.iload_n 2, 1) := by decide +kernel
theorem dX7_layJob_26 : decode cX7_layJob 26 = .ok (.aload_n 0, 1) := by decide +kernel
theorem dX7_layJob_27 : decode cX7_layJob 27 = .ok (.iload_n 1, 1) := by decide +kernel
theorem dX7_layJob_28 : decode cX7_layJob 28 = .ok (.bipush 7, 2) := by decide +kernel
theorem dX7_layJob_30 : decode cX7_layJob 30 = .ok (.iload_n 2, 1) := by decide +kernel
theorem dX7_layJob_31 : decode cX7_layJob 31 = .ok (.iadd, 1) := by decide +kernel
theorem dX7_layJob_32 : decode cX7_layJob 32 = .ok (.invokevirtual 60, 3) := by decide +kernel
theorem dX7_layJob_35 : decode cX7_layJob 35 = .ok (.iastore, 1) := by decide +kernel
theorem dX7_layJob_36 : decode cX7_layJob 36 = .ok (.iinc 2 1, 3) := by decide +kernel
theorem dX7_layJob_39 : decode cX7_layJob 39 = .ok (.goto (-26), 3) := by decide +kernel
theorem dX7_layJob_42 : decode cX7_layJob 42 = .ok (.aload_n 0, 1) := by decide +kernel
theorem dX7_layJob_43 : decode cX7_layJob 43 = .ok (.aload_n 0, 1) := by decide +kernel
theorem dX7_layJob_44 : decode cX7_layJob 44 = .ok (.iload_n 1, 1) := by decide +kernel
theorem dX7_layJob_45 : decode cX7_layJob 45 = .ok (.iconst 1, 1) := by decide +kernel
theorem dX7_layJob_46 : decode cX7_layJob 46 = .ok (.invokevirtual 60, 3) := by decide +kernel
theorem dX7_layJob_49 : decode cX7_layJob 49 = .ok (.invokevirtual 118, 3) := by decide +kernel
theorem dX7_layJob_52 : decode cX7_layJob 52 = .ok (.return_, 1) := by decide +kernel
def rm_X7_layJob : Room := { frames := 4, cells := 0, slots := 0, locals := 92 }
set_option maxRecDepth 100000 in
set_option maxHeartbeats 4000000 in
theorem ok_X7_layJob_13 {E : Ev} {X : Xt} {l0 : Launch} {K : Hp → Prop} (hC : Cx E X l0 RX7 cX7_layJob 3 rm_X7_layJob) (hQ : CQ E X "layJob" none rm_X7_layJob (KV K)) : ∀ (n : Nat) (a0 : Nat) (a1 : Int32) (a2 : Int32) (h : Hp), V_X7_layJob_13 K n a0 a1 a2 h → WW E X h 0 0 13 [some (rv a0), some (.int a1), some (.int a2)] [] := by
  intro n
  induction n with
  | zero => intro a0 a1 a2 h hV; exact hV.elim
  | succ n ih =>
    intro a0 a1 a2 h hV
    unfold V_X7_layJob_13 at hV
    refine r_iload_n hC dX7_layJob_13 rfl ?_
    refine r_aload_n hC dX7_layJob_14 rfl ?_
    obtain ⟨k9, hV⟩ := hV
    refine r_getI hC dX7_layJob_15 fl_7_112 rf_7_7 lq_7 k9 ?_
    refine r_icmp_ge (tgt := 42) hC dX7_layJob_18 (by decide) (fun k9 => ?_) (fun k9 => ?_)
    · replace hV := hV.1 k9
      refine r_aload_n hC dX7_layJob_42 rfl ?_
      refine r_aload_n hC dX7_layJob_43 rfl ?_
      refine r_iload_n hC dX7_layJob_44 rfl ?_
      refine r_iconst (v := 1) hC dX7_layJob_45 (by decide) ?_
      obtain ⟨k9, hV⟩ := hV
      refine r_callV (ci := 7) (As := [.int a1, .int 1]) hC dX7_layJob_46 rfl cf_X7_ofJob ml_7_60 im_X7_ofJob sl_X7_ofJob lq_7 rfl rfl k9 rfl ⟨Nat.le_of_ble_eq_true rfl, Nat.le_of_ble_eq_true rfl, Nat.le_of_ble_eq_true rfl, Nat.le_of_ble_eq_true rfl⟩ (csR cs0) (Nat.le_of_ble_eq_true rfl) (con_X7_ofJob a0 a1 1 h _ hV) rfl (kI (k := 0) (n := 0) (fun r1 h1 hV => ?_))
      obtain ⟨k9, hV⟩ := hV
      refine r_callV (ci := 7) (As := [.int r1]) hC dX7_layJob_49 rfl cf_X7_layLines ml_7_118 im_X7_layLines sl_X7_layLines lq_7 rfl rfl k9 rfl ⟨Nat.le_of_ble_eq_true rfl, Nat.le_of_ble_eq_true rfl, Nat.le_of_ble_eq_true rfl, Nat.le_of_ble_eq_true rfl⟩ cs0 (Nat.le_of_ble_eq_true rfl) (con_X7_layLines a0 r1 h1 _ hV) rfl (kV (k := 0) (n := 0) (fun h2 hV => ?_))
      exact r_vret hC hQ dX7_layJob_52 (Nat.le_of_ble_eq_true rfl) (Nat.le_of_ble_eq_true rfl) ⟨rfl, hV⟩
    · replace hV := hV.2 k9
      refine r_aload_n hC dX7_layJob_21 rfl ?_
      obtain ⟨k9, hV⟩ := hV
      refine r_getR hC dX7_layJob_22 fl_7_22 rf_7_8 lq_7 k9 ?_
      refine r_iload_n hC dX7_layJob_25 rfl ?_
      refine r_aload_n hC dX7_layJob_26 rfl ?_
      refine r_iload_n hC dX7_layJob_27 rfl ?_
      refine r_bipush (v := 7) hC dX7_layJob_28 (by decide) ?_
      refine r_iload_n hC dX7_layJob_30 rfl ?_
      refine r_iadd hC dX7_layJob_31 ?_
      obtain ⟨k9, hV⟩ := hV
      refine r_callV (ci := 7) (As := [.int a1, .int (7 + a2)]) hC dX7_layJob_32 rfl cf_X7_ofJob ml_7_60 im_X7_ofJob sl_X7_ofJob lq_7 rfl rfl k9 rfl ⟨Nat.le_of_ble_eq_true rfl, Nat.le_of_ble_eq_true rfl, Nat.le_of_ble_eq_true rfl, Nat.le_of_ble_eq_true rfl⟩ (csI (csR cs0)) (Nat.le_of_ble_eq_true rfl) (con_X7_ofJob a0 a1 (7 + a2) h _ hV) rfl (kI (k := 0) (n := 0) (fun r1 h1 hV => ?_))
      obtain ⟨k9, k8, hV⟩ := hV
      refine r_iast (kd := 68) hC dX7_layJob_35 (by decide) rfl k9 k8 (nmH (fun h2 k9 => ?_))
      replace hV := hV h2 k9
      refine r_iinc (v := 1) (lo1 := [some (rv a0), some (.int a1), some (.int (a2 + 1))]) hC dX7_layJob_36 rfl (by decide) rfl ?_
      refine r_goto (tgt := 13) hC dX7_layJob_39 (by decide) ?_
      exact ih a0 a1 (a2 + 1) h2 hV
set_option maxRecDepth 100000 in
set_option maxHeartbeats 4000000 in
theorem ok_X7_layJob_0 {E : Ev} {X : Xt} {l0 : Launch} {K : Hp → Prop} (hC : Cx E X l0 RX7 cX7_layJob 3 rm_X7_layJob) (hQ : CQ E X "layJob" none rm_X7_layJob (KV K)) (a0 : Nat) (a1 : Int32) (h : Hp) (hV : V_X7_layJob a0 a1 h K) : WW E X h 0 0 0 [some (rv a0), some (.int a1), none] [] := by
  unfold V_X7_layJob at hV
  refine r_aload_n hC dX7_layJob_0 rfl ?_
  refine r_aload_n hC dX7_layJob_1 rfl ?_
  refine r_iload_n hC dX7_layJob_2 rfl ?_
  refine r_bipush (v := 6) hC dX7_layJob_3 (by decide) ?_
  obtain ⟨k9, hV⟩ := hV
  refine r_callV (ci := 7) (As := [.int a1, .int 6]) hC dX7_layJob_5 rfl cf_X7_ofJob ml_7_60 im_X7_ofJob sl_X7_ofJob lq_7 rfl rfl k9 rfl ⟨Nat.le_of_ble_eq_true rfl, Nat.le_of_ble_eq_true rfl, Nat.le_of_ble_eq_true rfl, Nat.le_of_ble_eq_true rfl⟩ (csR cs0) (Nat.le_of_ble_eq_true rfl) (con_X7_ofJob a0 a1 6 h _ hV) rfl (kI (k := 0) (n := 0) (fun r1 h1 hV => ?_))
  obtain ⟨k9, hV⟩ := hV
  refine r_putI hC dX7_layJob_8 fl_7_112 ft_7 rfl rf_7_7 ty_7_7 lq_7 k9 (nmH (fun h2 k9 => ?_))
  replace hV := hV h2 k9
  refine r_iconst (v := 0) hC dX7_layJob_11 (by decide) ?_
  refine r_istore_n (lo1 := [some (rv a0), some (.int a1), some (.int 0)]) hC dX7_layJob_12 (Nat.le_of_ble_eq_true rfl) rfl ?_
  obtain ⟨n9, hV⟩ := hV
  exact ok_X7_layJob_13 hC hQ n9 a0 a1 0 h2 hV
set_option maxRecDepth 100000 in
set_option maxHeartbeats 4000000 in
theorem con_X7_layJob {E : Ev} {l0 : Launch} (a0 : Nat) (a1 : Int32) (h : Hp) (K : Hp → Prop) (hV : V_X7_layJob a0 a1 h K) : Con E l0 yX7_layJob cX7_layJob 3 none rm_X7_layJob [rv a0, .int a1] h (KV K) := by
  refine Con.of (by decide +kernel) (cat_R (cat_I cat_nil)) (Nat.le_of_ble_eq_true rfl) (fun X hC hQ => ?_)
  refine r_sub (lo1 := [some (rv a0), some (.int a1), none]) (show lsub [some (rv a0), some (.int a1), none] _ from ⟨Or.inr rfl, ⟨Or.inr rfl, ⟨Or.inr rfl, trivial⟩⟩⟩) ?_
  exact ok_X7_layJob_0 hC hQ a0 a1 h hV
theorem dX7_hasForme_0 : decode cX7_hasForme 0 = .ok (.aload_n 0, 1) := by decide +kernel
theorem dX7_hasForme_1 : decode cX7_hasForme 1 = .ok (.iload_n 1, 1) := by decide +kernel
theorem dX7_hasForme_2 : decode cX7_hasForme 2 = .ok (.iconst 3, 1) := by decide +kernel
theorem dX7_hasForme_3 : decode cX7_hasForme 3 = .ok (.invokevirtual 60, 3) := by decide +kernel
theorem dX7_hasForme_6 : decode cX7_hasForme 6 = .ok (.iconst 1, 1) := by decide +kernel
theorem dX7_hasForme_7 : decode cX7_hasForme 7 = .ok (.if_icmp .eq 13, 3) := by decide +kernel
theorem dX7_hasForme_10 : decode cX7_hasForme 10 = .ok (.aload_n 0, 1) := by decide +kernel
theorem dX7_hasForme_11 : decode cX7_hasForme 11 = .ok (.iload_n 1, 1) := by decide +kernel
theorem dX7_hasForme_12 : decode cX7_hasForme 12 = .ok (.iconst 3, 1) := by decide +kernel
theorem dX7_hasForme_13 : decode cX7_hasForme 13 = .ok (.invokevirtual 60, 3) := by decide +kernel
theorem dX7_hasForme_16 : decode cX7_hasForme 16 = .ok (.iconst 2, 1) := by decide +kernel
theorem dX7_hasForme_17 : decode cX7_hasForme 17 = .ok (.if_icmp .ne 7, 3) := by decide +kernel
theorem dX7_hasForme_20 : decode cX7_hasForme 20 = .ok (.iconst 1, 1) := by decide +kernel
theorem dX7_hasForme_21 : decode cX7_hasForme 21 = .ok (.goto 4, 3) := by decide +kernel
theorem dX7_hasForme_24 : decode cX7_hasForme 24 = .ok (.iconst 0, 1) := by decide +kernel
theorem dX7_hasForme_25 : decode cX7_hasForme 25 = .ok (.ireturn, 1) := by decide +kernel
def rm_X7_hasForme : Room := { frames := 1, cells := 0, slots := 0, locals := 22 }
set_option maxRecDepth 100000 in
set_option maxHeartbeats 4000000 in
theorem ok_X7_hasForme_25 {E : Ev} {X : Xt} {l0 : Launch} {K : Int32 → Hp → Prop} (hC : Cx E X l0 RX7 cX7_hasForme 2 rm_X7_hasForme) (hQ : CQ E X "hasForme" (some .boolean) rm_X7_hasForme (KI K)) (s0 : Int32) (h : Hp) (hV : V_X7_hasForme_25 K s0 h) : WW E X h 0 0 25 [none, none] [.int s0] := by
  unfold V_X7_hasForme_25 at hV
  exact r_zret hC hQ dX7_hasForme_25 (Nat.le_of_ble_eq_true rfl) (Nat.le_of_ble_eq_true rfl) hV.1 ⟨_, rfl, hV.2⟩
set_option maxRecDepth 100000 in
set_option maxHeartbeats 4000000 in
theorem ok_X7_hasForme_20 {E : Ev} {X : Xt} {l0 : Launch} {K : Int32 → Hp → Prop} (hC : Cx E X l0 RX7 cX7_hasForme 2 rm_X7_hasForme) (hQ : CQ E X "hasForme" (some .boolean) rm_X7_hasForme (KI K)) (h : Hp) (hV : V_X7_hasForme_20 K  h) : WW E X h 0 0 20 [none, none] [] := by
  unfold V_X7_hasForme_20 at hV
  refine r_iconst (v := 1) hC dX7_hasForme_20 (by decide) ?_
  refine r_goto (tgt := 25) hC dX7_hasForme_21 (by decide) ?_
  exact ok_X7_hasForme_25 hC hQ 1 h hV
set_option maxRecDepth 100000 in
set_option maxHeartbeats 4000000 in
theorem ok_X7_hasForme_0 {E : Ev} {X : Xt} {l0 : Launch} {K : Int32 → Hp → Prop} (hC : Cx E X l0 RX7 cX7_hasForme 2 rm_X7_hasForme) (hQ : CQ E X "hasForme" (some .boolean) rm_X7_hasForme (KI K)) (a0 : Nat) (a1 : Int32) (h : Hp) (hV : V_X7_hasForme a0 a1 h K) : WW E X h 0 0 0 [some (rv a0), some (.int a1)] [] := by
  unfold V_X7_hasForme at hV
  refine r_aload_n hC dX7_hasForme_0 rfl ?_
  refine r_iload_n hC dX7_hasForme_1 rfl ?_
  refine r_iconst (v := 3) hC dX7_hasForme_2 (by decide) ?_
  obtain ⟨k9, hV⟩ := hV
  refine r_callV (ci := 7) (As := [.int a1, .int 3]) hC dX7_hasForme_3 rfl cf_X7_ofJob ml_7_60 im_X7_ofJob sl_X7_ofJob lq_7 rfl rfl k9 rfl ⟨Nat.le_of_ble_eq_true rfl, Nat.le_of_ble_eq_true rfl, Nat.le_of_ble_eq_true rfl, Nat.le_of_ble_eq_true rfl⟩ cs0 (Nat.le_of_ble_eq_true rfl) (con_X7_ofJob a0 a1 3 h _ hV) rfl (kI (k := 0) (n := 0) (fun r1 h1 hV => ?_))
  refine r_iconst (v := 1) hC dX7_hasForme_6 (by decide) ?_
  refine r_icmp_eq (tgt := 20) hC dX7_hasForme_7 (by decide) (fun k9 => ?_) (fun k9 => ?_)
  · replace hV := hV.1 k9
    refine r_sub (lo1 := [none, none]) ⟨Or.inl rfl, ⟨Or.inl rfl, trivial⟩⟩ ?_
    exact ok_X7_hasForme_20 hC hQ  h1 hV
  · replace hV := hV.2 k9
    refine r_aload_n hC dX7_hasForme_10 rfl ?_
    refine r_iload_n hC dX7_hasForme_11 rfl ?_
    refine r_iconst (v := 3) hC dX7_hasForme_12 (by decide) ?_
    obtain ⟨k9, hV⟩ := hV
    refine r_callV (ci := 7) (As := [.int a1, .int 3]) hC dX7_hasForme_13 rfl cf_X7_ofJob ml_7_60 im_X7_ofJob sl_X7_ofJob lq_7 rfl rfl k9 rfl ⟨Nat.le_of_ble_eq_true rfl, Nat.le_of_ble_eq_true rfl, Nat.le_of_ble_eq_true rfl, Nat.le_of_ble_eq_true rfl⟩ cs0 (Nat.le_of_ble_eq_true rfl) (con_X7_ofJob a0 a1 3 h1 _ hV) rfl (kI (k := 0) (n := 0) (fun r2 h2 hV => ?_))
    refine r_iconst (v := 2) hC dX7_hasForme_16 (by decide) ?_
    refine r_icmp_ne (tgt := 24) hC dX7_hasForme_17 (by decide) (fun k9 => ?_) (fun k9 => ?_)
    · replace hV := hV.1 k9
      refine r_iconst (v := 0) hC dX7_hasForme_24 (by decide) ?_
      refine r_sub (lo1 := [none, none]) ⟨Or.inl rfl, ⟨Or.inl rfl, trivial⟩⟩ ?_
      exact ok_X7_hasForme_25 hC hQ 0 h2 hV
    · replace hV := hV.2 k9
      refine r_sub (lo1 := [none, none]) ⟨Or.inl rfl, ⟨Or.inl rfl, trivial⟩⟩ ?_
      exact ok_X7_hasForme_20 hC hQ  h2 hV
set_option maxRecDepth 100000 in
set_option maxHeartbeats 4000000 in
theorem con_X7_hasForme {E : Ev} {l0 : Launch} (a0 : Nat) (a1 : Int32) (h : Hp) (K : Int32 → Hp → Prop) (hV : V_X7_hasForme a0 a1 h K) : Con E l0 yX7_hasForme cX7_hasForme 2 (some .boolean) rm_X7_hasForme [rv a0, .int a1] h (KI K) := by
  refine Con.of (by decide +kernel) (cat_R (cat_I cat_nil)) (Nat.le_of_ble_eq_true rfl) (fun X hC hQ => ?_)
  refine r_sub (lo1 := [some (rv a0), some (.int a1)]) (show lsub [some (rv a0), some (.int a1)] _ from ⟨Or.inr rfl, ⟨Or.inr rfl, trivial⟩⟩) ?_
  exact ok_X7_hasForme_0 hC hQ a0 a1 h hV
theorem dX7_layNeeds_0 : decode cX7_layNeeds 0 = .ok (.aload_n 0, 1) := by decide +kernel
theorem dX7_layNeeds_1 : decode cX7_layNeeds 1 = .ok (.iload_n 1, 1) := by decide +kernel
theorem dX7_layNeeds_2 : decode cX7_layNeeds 2 = .ok (.invokevirtual 122, 3) := by decide +kernel
theorem dX7_layNeeds_5 : decode cX7_layNeeds 5 = .ok (.iconst 0, 1) := by decide +kernel
theorem dX7_layNeeds_6 : decode cX7_layNeeds 6 = .ok (.istore_n 2, 1) := by decide +kernel
theorem dX7_layNeeds_7 : decode cX7_layNeeds 7 = .ok (.iload_n 2, 1) := by decide +kernel
theorem dX7_layNeeds_8 : decode cX7_layNeeds 8 = .ok (.bipush 29, 2) := by decide +kernel
theorem dX7_layNeeds_10 : decode cX7_layNeeds 10 = .ok (.if_icmp .ge 76, 3) := by decide +kernel
theorem dX7_layNeeds_13 : decode cX7_layNeeds 13 = .ok (.aload_n 0, 1) := by decide +kernel
theorem dX7_layNeeds_14 : decode cX7_layNeeds 14 = .ok (.getfield 37, 3) := by decide +kernel
theorem dX7_layNeeds_17 : decode cX7_layNeeds 17 = .ok (.iload_n 2, 1) := by decide +kernel
theorem dX7_layNeeds_18 : decode cX7_layNeeds 18 = .ok (.iconst 0, 1) := by decide +kernel
theorem dX7_layNeeds_19 : decode cX7_layNeeds 19 = .ok (.iastore, 1) := by decide +kernel
theorem dX7_layNeeds_20 : decode cX7_layNeeds 20 = .ok (.aload_n 0, 1) := by decide +kernel
theorem dX7_layNeeds_21 : decode cX7_layNeeds 21 = .ok (.getfield 40, 3) := by decide +kernel
theorem dX7_layNeeds_24 : decode cX7_layNeeds 24 = .ok (.iload_n 2, 1) := by decide +kernel
theorem dX7_layNeeds_25 : decode cX7_layNeeds 25 = .ok (.iconst 0, 1) := by decide +kernel
theorem dX7_layNeeds_26 : decode cX7_layNeeds 26 = .ok (.iastore, 1) := by decide +kernel
theorem dX7_layNeeds_27 : decode cX7_layNeeds 27 = .ok (.iconst 0, 1) := by decide +kernel
theorem dX7_layNeeds_28 : decode cX7_layNeeds 28 = .ok (.istore_n 3, 1) := by decide +kernel
theorem dX7_layNeeds_29 : decode cX7_layNeeds 29 = .ok (.iload_n 3, 1) := by decide +kernel
theorem dX7_layNeeds_30 : decode cX7_layNeeds 30 = .ok (.aload_n 0, 1) := by decide +kernel
theorem dX7_layNeeds_31 : decode cX7_layNeeds 31 = .ok (.getfield 7, 3) := by decide +kernel
theorem dX7_layNeeds_34 : decode cX7_layNeeds 34 = .ok (.iconst 0, 1) := by decide +kernel
theorem dX7_layNeeds_35 : decode cX7_layNeeds 35 = .ok (.iaload, 1) := by decide +kernel
theorem dX7_layNeeds_36 : decode cX7_layNeeds 36 = .ok (.if_icmp .ge 44, 3) := by decide +kernel
theorem dX7_layNeeds_39 : decode cX7_layNeeds 39 = .ok (.aload_n 0, 1) := by decide +kernel
theorem dX7_layNeeds_40 : decode cX7_layNeeds 40 = .ok (.getfield 40, 3) := by decide +kernel
theorem dX7_layNeeds_43 : decode cX7_layNeeds 43 = .ok (.iload_n 2, 1) := by decide +kernel
theorem dX7_layNeeds_44 : decode cX7_layNeeds 44 = .ok (.dup2, 1) := by decide +kernel
theorem dX7_layNeeds_45 : decode cX7_layNeeds 45 = .ok (.iaload, 1) := by decide +kernel
theorem dX7_layNeeds_46 : decode cX7_layNeeds 46 = .ok (.aload_n 0, 1) := by decide +kernel
theorem dX7_layNeeds_47 : decode cX7_layNeeds 47 = .ok (.iload_n 3, 1) := by decide +kernel
theorem dX7_layNeeds_48 : decode cX7_layNeeds 48 = .ok (.iload_n 2, 1) := by decide +kernel
theorem dX7_layNeeds_49 : decode cX7_layNeeds 49 = .ok (.invokevirtual 79, 3) := by decide +kernel
theorem dX7_layNeeds_52 : decode cX7_layNeeds 52 = .ok (.aload_n 0, 1) := by decide +kernel
theorem dX7_layNeeds_53 : decode cX7_layNeeds 53 = .ok (.iload_n 1, 1) := by decide +kernel
theorem dX7_layNeeds_54 : decode cX7_layNeeds 54 = .ok (.invokevirtual 125, 3) := by decide +kernel
theorem dX7_layNeeds_57 : decode cX7_layNeeds 57 = .ok (.ifCond .eq 13, 3) := by decide +kernel
theorem dX7_layNeeds_60 : decode cX7_layNeeds 60 = .ok (.aload_n 0, 1) := by decide +kernel
theorem dX7_layNeeds_61 : decode cX7_layNeeds 61 = .ok (.iload_n 1, 1) := by decide +kernel
theorem dX7_layNeeds_62 : decode cX7_layNeeds 62 = .ok (.iload_n 3, 1) := by decide +kernel
theorem dX7_layNeeds_63 : decode cX7_layNeeds 63 = .ok (.iload_n 2, 1) := by decide +kernel
theorem dX7_layNeeds_64 : decode cX7_layNeeds 64 = .ok (.invokevirtual 128, 3) := by decide +kernel
theorem dX7_layNeeds_67 : decode cX7_layNeeds 67 = .ok (.goto 4, 3) := by decide +kernel
theorem dX7_layNeeds_70 : decode cX7_layNeeds 70 = .ok (.iconst 0, 1) := by decide +kernel
theorem dX7_layNeeds_71 : decode cX7_layNeeds 71 = .ok (.iadd, 1) := by decide +kernel
theorem dX7_layNeeds_72 : decode cX7_layNeeds 72 = .ok (.iadd, 1) := by decide +kernel
theorem dX7_layNeeds_73 : decode cX7_layNeeds 73 = .ok (.iastore, 1) := by decide +kernel
theorem dX7_layNeeds_74 : decode cX7_layNeeds 74 = .ok (.iinc 3 1, 3) := by decide +kernel
theorem dX7_layNeeds_77 : decode cX7_layNeeds 77 = .ok (.goto (-48), 3) := by decide +kernel
theorem dX7_layNeeds_80 : decode cX7_layNeeds 80 = .ok (.iinc 2 1, 3) := by decide +kernel
theorem dX7_layNeeds_83 : decode cX7_layNeeds 83 = .ok (.goto (-76), 3) := by decide +kernel
theorem dX7_layNeeds_86 : decode cX7_layNeeds 86 = .ok (.iconst 0, 1) := by decide +kernel
theorem dX7_layNeeds_87 : decode cX7_layNeeds 87 = .ok (.istore_n 2, 1) := by decide +kernel
theorem dX7_layNeeds_88 : decode cX7_layNeeds 88 = .ok (.iload_n 2, 1) := by decide +kernel
theorem dX7_layNeeds_89 : decode cX7_layNeeds 89 = .ok (.aload_n 0, 1) := by decide +kernel
theorem dX7_layNeeds_90 : decode cX7_layNeeds 90 = .ok (.getfield 112, 3) := by decide +kernel
theorem dX7_layNeeds_93 : decode cX7_layNeeds 93 = .ok (.if_icmp .ge 39, 3) := by decide +kernel
theorem dX7_layNeeds_96 : decode cX7_layNeeds 96 = .ok (.aload_n 0, 1) := by decide +kernel
theorem dX7_layNeeds_97 : decode cX7_layNeeds 97 = .ok (.getfield 22, 3) := by decide +kernel
theorem dX7_layNeeds_100 : decode cX7_layNeeds 100 = .ok (.iload_n 2, 1) := by decide +kernel
theorem dX7_layNeeds_101 : decode cX7_layNeeds 101 = .ok (.iaload, 1) := by decide +kernel
theorem dX7_layNeeds_102 : decode cX7_layNeeds 102 = .ok (.invokestatic 96, 3) := by decide +kernel
theorem dX7_layNeeds_105 : decode cX7_layNeeds 105 = .ok (.ifCond .eq 21, 3) := by decide +kernel
theorem dX7_layNeeds_108 : decode cX7_layNeeds 108 = .ok (.aload_n 0, 1) := by decide +kernel
theorem dX7_layNeeds_109 : decode cX7_layNeeds 109 = .ok (.getfield 37, 3) := by decide +kernel
theorem dX7_layNeeds_112 : decode cX7_layNeeds 112 = .ok (.aload_n 0, 1) := by decide +kernel
theorem dX7_layNeeds_113 : decode cX7_layNeeds 113 = .ok (.getfield 22, 3) := by decide +kernel
theorem dX7_layNeeds_116 : decode cX7_layNeeds 116 = .ok (.iload_n 2, 1) := by decide +kernel
theorem dX7_layNeeds_117 : decode cX7_layNeeds 117 = .ok (.iaload, 1) := by decide +kernel
theorem dX7_layNeeds_118 : decode cX7_layNeeds 118 = .ok (.bipush 97, 2) := by decide +kernel
theorem dX7_layNeeds_120 : decode cX7_layNeeds 120 = .ok (.isub, 1) := by decide +kernel
theorem dX7_layNeeds_121 : decode cX7_layNeeds 121 = .ok (.dup2, 1) := by decide +kernel
theorem dX7_layNeeds_122 : decode cX7_layNeeds 122 = .ok (.iaload, 1) := by decide +kernel
theorem dX7_layNeeds_123 : decode cX7_layNeeds 123 = .ok (.iconst 1, 1) := by decide +kernel
theorem dX7_layNeeds_124 : decode cX7_layNeeds 124 = .ok (.iadd, 1) := by decide +kernel
theorem dX7_layNeeds_125 : decode cX7_layNeeds 125 = .ok (.iastore, 1) := by decide +kernel
theorem dX7_layNeeds_126 : decode cX7_layNeeds 126 = .ok (.iinc 2 1, 3) := by decide +kernel
theorem dX7_layNeeds_129 : decode cX7_layNeeds 129 = .ok (.goto (-41), 3) := by decide +kernel
theorem dX7_layNeeds_132 : decode cX7_layNeeds 132 = .ok (.iconst 0, 1) := by decide +kernel
theorem dX7_layNeeds_133 : decode cX7_layNeeds 133 = .ok (.istore_n 2, 1) := by decide +kernel
theorem dX7_layNeeds_134 : decode cX7_layNeeds 134 = .ok (.iload_n 2, 1) := by decide +kernel
theorem dX7_layNeeds_135 : decode cX7_layNeeds 135 = .ok (.aload_n 0, 1) := by decide +kernel
theorem dX7_layNeeds_136 : decode cX7_layNeeds 136 = .ok (.getfield 109, 3) := by decide +kernel
theorem dX7_layNeeds_139 : decode cX7_layNeeds 139 = .ok (.if_icmp .ge 148, 3) := by decide +kernel
theorem dX7_layNeeds_142 : decode cX7_layNeeds 142 = .ok (.aload_n 0, 1) := by decide +kernel
theorem dX7_layNeeds_143 : decode cX7_layNeeds 143 = .ok (.getfield 43, 3) := by decide +kernel
theorem dX7_layNeeds_146 : decode cX7_layNeeds 146 = .ok (.iload_n 2, 1) := by decide +kernel
theorem dX7_layNeeds_147 : decode cX7_layNeeds 147 = .ok (.aload_n 0, 1) := by decide +kernel
theorem dX7_layNeeds_148 : decode cX7_layNeeds 148 = .ok (.getfield 34, 3) := by decide +kernel
theorem dX7_layNeeds_151 : decode cX7_layNeeds 151 = .ok (.iload_n 2, 1) := by decide +kernel
theorem dX7_layNeeds_152 : decode cX7_layNeeds 152 = .ok (.iaload, 1) := by decide +kernel
theorem dX7_layNeeds_153 : decode cX7_layNeeds 153 = .ok (.iconst 4, 1) := by decide +kernel
theorem dX7_layNeeds_154 : decode cX7_layNeeds 154 = .ok (.idiv, 1) := by decide +kernel
theorem dX7_layNeeds_155 : decode cX7_layNeeds 155 = .ok (.aload_n 0, 1) := by decide +kernel
theorem dX7_layNeeds_156 : decode cX7_layNeeds 156 = .ok (.getfield 40, 3) := by decide +kernel
theorem dX7_layNeeds_159 : decode cX7_layNeeds 159 = .ok (.bipush 26, 2) := by decide +kernel
theorem dX7_layNeeds_161 : decode cX7_layNeeds 161 = .ok (.iaload, 1) := by decide +kernel
theorem dX7_layNeeds_162 : decode cX7_layNeeds 162 = .ok (.aload_n 0, 1) := by decide +kernel
theorem dX7_layNeeds_163 : decode cX7_layNeeds 163 = .ok (.getfield 37, 3) := by decide +kernel
theorem dX7_layNeeds_166 : decode cX7_layNeeds 166 = .ok (.bipush 26, 2) := by decide +kernel
theorem dX7_layNeeds_168 : decode cX7_layNeeds 168 = .ok (.iaload, 1) := by decide +kernel
theorem dX7_layNeeds_169 : decode cX7_layNeeds 169 = .ok (.isub, 1) := by decide +kernel
theorem dX7_layNeeds_170 : decode cX7_layNeeds 170 = .ok (.invokestatic 132, 3) := by decide +kernel
theorem dX7_layNeeds_173 : decode cX7_layNeeds 173 = .ok (.iastore, 1) := by decide +kernel
theorem dX7_layNeeds_174 : decode cX7_layNeeds 174 = .ok (.aload_n 0, 1) := by decide +kernel
theorem dX7_layNeeds_175 : decode cX7_layNeeds 175 = .ok (.getfield 37, 3) := by decide +kernel
theorem dX7_layNeeds_178 : decode cX7_layNeeds 178 = .ok (.bipush 26, 2) := by decide +kernel
theorem dX7_layNeeds_180 : decode cX7_layNeeds 180 = .ok (.dup2, 1) := by decide +kernel
theorem dX7_layNeeds_181 : decode cX7_layNeeds 181 = .ok (.iaload, 1) := by decide +kernel
theorem dX7_layNeeds_182 : decode cX7_layNeeds 182 = .ok (.aload_n 0, 1) := by decide +kernel
theorem dX7_layNeeds_183 : decode cX7_layNeeds 183 = .ok (.getfield 43, 3) := by decide +kernel
theorem dX7_layNeeds_186 : decode cX7_layNeeds 186 = .ok (.iload_n 2, 1) := by decide +kernel
theorem dX7_layNeeds_187 : decode cX7_layNeeds 187 = .ok (.iaload, 1) := by decide +kernel
theorem dX7_layNeeds_188 : decode cX7_layNeeds 188 = .ok (.iadd, 1) := by decide +kernel
theorem dX7_layNeeds_189 : decode cX7_layNeeds 189 = .ok (.iastore, 1) := by decide +kernel
theorem dX7_layNeeds_190 : decode cX7_layNeeds 190 = .ok (.aload_n 0, 1) := by decide +kernel
theorem dX7_layNeeds_191 : decode cX7_layNeeds 191 = .ok (.getfield 34, 3) := by decide +kernel
theorem dX7_layNeeds_194 : decode cX7_layNeeds 194 = .ok (.iload_n 2, 1) := by decide +kernel
theorem dX7_layNeeds_195 : decode cX7_layNeeds 195 = .ok (.iaload, 1) := by decide +kernel
theorem dX7_layNeeds_196 : decode cX7_layNeeds 196 = .ok (.iconst 4, 1) := by decide +kernel
theorem dX7_layNeeds_197 : decode cX7_layNeeds 197 = .ok (.aload_n 0, 1) := by decide +kernel
theorem dX7_layNeeds_198 : decode cX7_layNeeds 198 = .ok (.getfield 43, 3) := by decide +kernel
theorem dX7_layNeeds_201 : decode cX7_layNeeds 201 = .ok (.iload_n 2, 1) := by decide +kernel
theorem dX7_layNeeds_202 : decode cX7_layNeeds 202 = .ok (.iaload, 1) := by decide +kernel
theorem dX7_layNeeds_203 : decode cX7_layNeeds 203 = .ok (.imul, 1) := by decide +kernel
theorem dX7_layNeeds_204 : decode cX7_layNeeds 204 = .ok (.isub, 1) := by decide +kernel
theorem dX7_layNeeds_205 : decode cX7_layNeeds 205 = .ok (.istore_n 3, 1) := by decide +kernel
theorem dX7_layNeeds_206 : decode cX7_layNeeds 206 = .ok (.aload_n 0, 1) := by decide +kernel
theorem dX7_layNeeds_207 : decode cX7_layNeeds 207 = .ok (.getfield 46, 3) := by decide +kernel
theorem dX7_layNeeds_210 : decode cX7_layNeeds 210 = .ok (.iload_n 2, 1) := by decide +kernel
theorem dX7_layNeeds_211 : decode cX7_layNeeds 211 = .ok (.iload_n 3, 1) := by decide +kernel
theorem dX7_layNeeds_212 : decode cX7_layNeeds 212 = .ok (.iconst 2, 1) := by decide +kernel
theorem dX7_layNeeds_213 : decode cX7_layNeeds 213 = .ok (.idiv, 1) := by decide +kernel
theorem dX7_layNeeds_214 : decode cX7_layNeeds 214 = .ok (.aload_n 0, 1) := by decide +kernel
theorem dX7_layNeeds_215 : decode cX7_layNeeds 215 = .ok (.getfield 40, 3) := by decide +kernel
theorem dX7_layNeeds_218 : decode cX7_layNeeds 218 = .ok (.bipush 27, 2) := by decide +kernel
theorem dX7_layNeeds_220 : decode cX7_layNeeds 220 = .ok (.iaload, 1) := by decide +kernel
theorem dX7_layNeeds_221 : decode cX7_layNeeds 221 = .ok (.aload_n 0, 1) := by decide +kernel
theorem dX7_layNeeds_222 : decode cX7_layNeeds 222 = .ok (.getfield 37, 3) := by decide +kernel
theorem dX7_layNeeds_225 : decode cX7_layNeeds 225 = .ok (.bipush 27, 2) := by decide +kernel
theorem dX7_layNeeds_227 : decode cX7_layNeeds 227 = .ok (.iaload, 1) := by decide +kernel
theorem dX7_layNeeds_228 : decode cX7_layNeeds 228 = .ok (.isub, 1) := by decide +kernel
theorem dX7_layNeeds_229 : decode cX7_layNeeds 229 = .ok (.invokestatic 132, 3) := by decide +kernel
theorem dX7_layNeeds_232 : decode cX7_layNeeds 232 = .ok (.iastore, 1) := by decide +kernel
theorem dX7_layNeeds_233 : decode cX7_layNeeds 233 = .ok (.aload_n 0, 1) := by decide +kernel
theorem dX7_layNeeds_234 : decode cX7_layNeeds 234 = .ok (.getfield 37, 3) := by decide +kernel
theorem dX7_layNeeds_237 : decode cX7_layNeeds 237 = .ok (.bipush 27, 2) := by decide +kernel
theorem dX7_layNeeds_239 : decode cX7_layNeeds 239 = .ok (.dup2, 1) := by decide +kernel
theorem dX7_layNeeds_240 : decode cX7_layNeeds 240 = .ok (.iaload, 1) := by decide +kernel
theorem dX7_layNeeds_241 : decode cX7_layNeeds 241 = .ok (.aload_n 0, 1) := by decide +kernel
theorem dX7_layNeeds_242 : decode cX7_layNeeds 242 = .ok (.getfield 46, 3) := by decide +kernel
theorem dX7_layNeeds_245 : decode cX7_layNeeds 245 = .ok (.iload_n 2, 1) := by decide +kernel
theorem dX7_layNeeds_246 : decode cX7_layNeeds 246 = .ok (.iaload, 1) := by decide +kernel
theorem dX7_layNeeds_247 : decode cX7_layNeeds 247 = .ok (.iadd, 1) := by decide +kernel
theorem dX7_layNeeds_248 : decode cX7_layNeeds 248 = .ok (.iastore, 1) := by decide +kernel
theorem dX7_layNeeds_249 : decode cX7_layNeeds 249 = .ok (.aload_n 0, 1) := by decide +kernel
theorem dX7_layNeeds_250 : decode cX7_layNeeds 250 = .ok (.getfield 49, 3) := by decide +kernel
theorem dX7_layNeeds_253 : decode cX7_layNeeds 253 = .ok (.iload_n 2, 1) := by decide +kernel
theorem dX7_layNeeds_254 : decode cX7_layNeeds 254 = .ok (.iload_n 3, 1) := by decide +kernel
theorem dX7_layNeeds_255 : decode cX7_layNeeds 255 = .ok (.iconst 2, 1) := by decide +kernel
theorem dX7_layNeeds_256 : decode cX7_layNeeds 256 = .ok (.aload_n 0, 1) := by decide +kernel
theorem dX7_layNeeds_257 : decode cX7_layNeeds 257 = .ok (.getfield 46, 3) := by decide +kernel
theorem dX7_layNeeds_260 : decode cX7_layNeeds 260 = .ok (.iload_n 2, 1) := by decide +kernel
theorem dX7_layNeeds_261 : decode cX7_layNeeds 261 = .ok (.iaload, 1) := by decide +kernel
theorem dX7_layNeeds_262 : decode cX7_layNeeds 262 = .ok (.imul, 1) := by decide +kernel
theorem dX7_layNeeds_263 : decode cX7_layNeeds 263 = .ok (.isub, 1) := by decide +kernel
theorem dX7_layNeeds_264 : decode cX7_layNeeds 264 = .ok (.iastore, 1) := by decide +kernel
theorem dX7_layNeeds_265 : decode cX7_layNeeds 265 = .ok (.aload_n 0, 1) := by decide +kernel
theorem dX7_layNeeds_266 : decode cX7_layNeeds 266 = .ok (.getfield 37, 3) := by decide +kernel
theorem dX7_layNeeds_269 : decode cX7_layNeeds 269 = .ok (.bipush 28, 2) := by decide +kernel
theorem dX7_layNeeds_271 : decode cX7_layNeeds 271 = .ok (.dup2, 1) := by decide +kernel
theorem dX7_layNeeds_272 : decode cX7_layNeeds 272 = .ok (.iaload, 1) := by decide +kernel
theorem dX7_layNeeds_273 : decode cX7_layNeeds 273 = .ok (.aload_n 0, 1) := by decide +kernel
theorem dX7_layNeeds_274 : decode cX7_layNeeds 274 = .ok (.getfield 49, 3) := by decide +kernel
theorem dX7_layNeeds_277 : decode cX7_layNeeds 277 = .ok (.iload_n 2, 1) := by decide +kernel
theorem dX7_layNeeds_278 : decode cX7_layNeeds 278 = .ok (.iaload, 1) := by decide +kernel
theorem dX7_layNeeds_279 : decode cX7_layNeeds 279 = .ok (.iadd, 1) := by decide +kernel
theorem dX7_layNeeds_280 : decode cX7_layNeeds 280 = .ok (.iastore, 1) := by decide +kernel
theorem dX7_layNeeds_281 : decode cX7_layNeeds 281 = .ok (.iinc 2 1, 3) := by decide +kernel
theorem dX7_layNeeds_284 : decode cX7_layNeeds 284 = .ok (.goto (-150), 3) := by decide +kernel
theorem dX7_layNeeds_287 : decode cX7_layNeeds 287 = .ok (.return_, 1) := by decide +kernel
def rm_X7_layNeeds : Room := { frames := 5, cells := 0, slots := 0, locals := 114 }
set_option maxRecDepth 100000 in
set_option maxHeartbeats 4000000 in
theorem ok_X7_layNeeds_71 {E : Ev} {X : Xt} {l0 : Launch} {K : Hp → Prop} {C7 : Nat → Int32 → Int32 → Hp → Prop} {C29 : Nat → Int32 → Int32 → Int32 → Hp → Prop} (hC : Cx E X l0 RX7 cX7_layNeeds 4 rm_X7_layNeeds) (hQ : CQ E X "layNeeds" none rm_X7_layNeeds (KV K)) (hC7 : ∀ (a0 : Nat) (a1 : Int32) (a2 : Int32) (h : Hp), C7 a0 a1 a2 h → WW E X h 0 0 7 [some (rv a0), some (.int a1), some (.int a2), none] []) (hC29 : ∀ (a0 : Nat) (a1 : Int32) (a2 : Int32) (a3 : Int32) (h : Hp), C29 a0 a1 a2 a3 h → WW E X h 0 0 29 [some (rv a0), some (.int a1), some (.int a2), some (.int a3)] []) (a0 : Nat) (a1 : Int32) (a2 : Int32) (a3 : Int32) (s0 : Nat) (s1 : Int32) (s2 : Int32) (s3 : Int32) (s4 : Int32) (h : Hp) (hV : V_X7_layNeeds_71 K C7 C29 a0 a1 a2 a3 s0 s1 s2 s3 s4 h) : WW E X h 0 0 71 [some (rv a0), some (.int a1), some (.int a2), some (.int a3)] [.int s4, .int s3, .int s2, .int s1, rv s0] := by
  unfold V_X7_layNeeds_71 at hV
  refine r_iadd hC dX7_layNeeds_71 ?_
  refine r_iadd hC dX7_layNeeds_72 ?_
  obtain ⟨k9, k8, hV⟩ := hV
  refine r_iast (kd := 78) hC dX7_layNeeds_73 (by decide) rfl k9 k8 (nmH (fun h1 k9 => ?_))
  replace hV := hV h1 k9
  refine r_iinc (v := 1) (lo1 := [some (rv a0), some (.int a1), some (.int a2), some (.int (a3 + 1))]) hC dX7_layNeeds_74 rfl (by decide) rfl ?_
  refine r_goto (tgt := 29) hC dX7_layNeeds_77 (by decide) ?_
  exact hC29 a0 a1 a2 (a3 + 1) h1 hV
set_option maxRecDepth 100000 in
set_option maxHeartbeats 4000000 in
theorem ok_X7_layNeeds_29 {E : Ev} {X : Xt} {l0 : Launch} {K : Hp → Prop} {C7 : Nat → Int32 → Int32 → Hp → Prop} (hC : Cx E X l0 RX7 cX7_layNeeds 4 rm_X7_layNeeds) (hQ : CQ E X "layNeeds" none rm_X7_layNeeds (KV K)) (hC7 : ∀ (a0 : Nat) (a1 : Int32) (a2 : Int32) (h : Hp), C7 a0 a1 a2 h → WW E X h 0 0 7 [some (rv a0), some (.int a1), some (.int a2), none] []) : ∀ (n : Nat) (a0 : Nat) (a1 : Int32) (a2 : Int32) (a3 : Int32) (h : Hp), V_X7_layNeeds_29 K C7 n a0 a1 a2 a3 h → WW E X h 0 0 29 [some (rv a0), some (.int a1), some (.int a2), some (.int a3)] [] := by
  intro n
  induction n with
  | zero => intro a0 a1 a2 a3 h hV; exact hV.elim
  | succ n ih =>
    intro a0 a1 a2 a3 h hV
    unfold V_X7_layNeeds_29 at hV
    refine r_iload_n hC dX7_layNeeds_29 rfl ?_
    refine r_aload_n hC dX7_layNeeds_30 rfl ?_
    obtain ⟨k9, hV⟩ := hV
    refine r_getR hC dX7_layNeeds_31 fl_7_7 rf_7_0 lq_7 k9 ?_
    refine r_iconst (v := 0) hC dX7_layNeeds_34 (by decide) ?_
    obtain ⟨k9, k8, hV⟩ := hV
    refine r_iald (kd := 60) hC dX7_layNeeds_35 (by decide) rfl k9 k8 ?_
    refine r_icmp_ge (tgt := 80) hC dX7_layNeeds_36 (by decide) (fun k9 => ?_) (fun k9 => ?_)
    · replace hV := hV.1 k9
      refine r_iinc (v := 1) (lo1 := [some (rv a0), some (.int a1), some (.int (a2 + 1)), some (.int a3)]) hC dX7_layNeeds_80 rfl (by decide) rfl ?_
      refine r_goto (tgt := 7) hC dX7_layNeeds_83 (by decide) ?_
      refine r_sub (lo1 := [some (rv a0), some (.int a1), some (.int (a2 + 1)), none]) ⟨Or.inr rfl, ⟨Or.inr rfl, ⟨Or.inr rfl, ⟨Or.inl rfl, trivial⟩⟩⟩⟩ ?_
      exact hC7 a0 a1 (a2 + 1) h hV
    · replace hV := hV.2 k9
      refine r_aload_n hC dX7_layNeeds_39 rfl ?_
      obtain ⟨k9, hV⟩ := hV
      refine r_getR hC dX7_layNeeds_40 fl_7_40 rf_7_18 lq_7 k9 ?_
      refine r_iload_n hC dX7_layNeeds_43 rfl ?_
      refine r_dup2 hC dX7_layNeeds_44 rfl (rv_cat _) ?_
      obtain ⟨k9, k8, hV⟩ := hV
      refine r_iald (kd := 78) hC dX7_layNeeds_45 (by decide) rfl k9 k8 ?_
      refine r_aload_n hC dX7_layNeeds_46 rfl ?_
      refine r_iload_n hC dX7_layNeeds_47 rfl ?_
      refine r_iload_n hC dX7_layNeeds_48 rfl ?_
      obtain ⟨k9, hV⟩ := hV
      refine r_callV (ci := 7) (As := [.int a3, .int a2]) hC dX7_layNeeds_49 rfl cf_X7_has ml_7_79 im_X7_has sl_X7_has lq_7 rfl rfl k9 rfl ⟨Nat.le_of_ble_eq_true rfl, Nat.le_of_ble_eq_true rfl, Nat.le_of_ble_eq_true rfl, Nat.le_of_ble_eq_true rfl⟩ (csI (csI (csR cs0))) (Nat.le_of_ble_eq_true rfl) (con_X7_has a0 a3 a2 h _ hV) rfl (kI (k := 0) (n := 0) (fun r1 h1 hV => ?_))
      refine r_aload_n hC dX7_layNeeds_52 rfl ?_
      refine r_iload_n hC dX7_layNeeds_53 rfl ?_
      obtain ⟨k9, hV⟩ := hV
      refine r_callV (ci := 7) (As := [.int a1]) hC dX7_layNeeds_54 rfl cf_X7_hasForme ml_7_125 im_X7_hasForme sl_X7_hasForme lq_7 rfl rfl k9 rfl ⟨Nat.le_of_ble_eq_true rfl, Nat.le_of_ble_eq_true rfl, Nat.le_of_ble_eq_true rfl, Nat.le_of_ble_eq_true rfl⟩ (csI (csI (csI (csR cs0)))) (Nat.le_of_ble_eq_true rfl) (con_X7_hasForme a0 a1 h1 _ hV) rfl (kI (k := 0) (n := 0) (fun r2 h2 hV => ?_))
      refine r_if_eq (tgt := 70) hC dX7_layNeeds_57 (by decide) (fun k9 => ?_) (fun k9 => ?_)
      · replace hV := hV.1 k9
        refine r_iconst (v := 0) hC dX7_layNeeds_70 (by decide) ?_
        exact ok_X7_layNeeds_71 hC hQ hC7 ih a0 a1 a2 a3 (hR h a0 18) a2 (hI h (hR h a0 18) (ix a2)) r1 0 h2 hV
      · replace hV := hV.2 k9
        refine r_aload_n hC dX7_layNeeds_60 rfl ?_
        refine r_iload_n hC dX7_layNeeds_61 rfl ?_
        refine r_iload_n hC dX7_layNeeds_62 rfl ?_
        refine r_iload_n hC dX7_layNeeds_63 rfl ?_
        obtain ⟨k9, hV⟩ := hV
        refine r_callV (ci := 7) (As := [.int a1, .int a3, .int a2]) hC dX7_layNeeds_64 rfl cf_X7_inForme ml_7_128 im_X7_inForme sl_X7_inForme lq_7 rfl rfl k9 rfl ⟨Nat.le_of_ble_eq_true rfl, Nat.le_of_ble_eq_true rfl, Nat.le_of_ble_eq_true rfl, Nat.le_of_ble_eq_true rfl⟩ (csI (csI (csI (csR cs0)))) (Nat.le_of_ble_eq_true rfl) (con_X7_inForme a0 a1 a3 a2 h2 _ hV) rfl (kI (k := 0) (n := 0) (fun r3 h3 hV => ?_))
        refine r_goto (tgt := 71) hC dX7_layNeeds_67 (by decide) ?_
        exact ok_X7_layNeeds_71 hC hQ hC7 ih a0 a1 a2 a3 (hR h a0 18) a2 (hI h (hR h a0 18) (ix a2)) r1 r3 h3 hV
set_option maxRecDepth 100000 in
set_option maxHeartbeats 4000000 in
theorem ok_X7_layNeeds_126 {E : Ev} {X : Xt} {l0 : Launch} {K : Hp → Prop} {C88 : Nat → Int32 → Hp → Prop} (hC : Cx E X l0 RX7 cX7_layNeeds 4 rm_X7_layNeeds) (hQ : CQ E X "layNeeds" none rm_X7_layNeeds (KV K)) (hC88 : ∀ (a0 : Nat) (a2 : Int32) (h : Hp), C88 a0 a2 h → WW E X h 0 0 88 [some (rv a0), none, some (.int a2), none] []) (a0 : Nat) (a2 : Int32) (h : Hp) (hV : V_X7_layNeeds_126 K C88 a0 a2 h) : WW E X h 0 0 126 [some (rv a0), none, some (.int a2), none] [] := by
  unfold V_X7_layNeeds_126 at hV
  refine r_iinc (v := 1) (lo1 := [some (rv a0), none, some (.int (a2 + 1)), none]) hC dX7_layNeeds_126 rfl (by decide) rfl ?_
  refine r_goto (tgt := 88) hC dX7_layNeeds_129 (by decide) ?_
  exact hC88 a0 (a2 + 1) h hV
set_option maxRecDepth 100000 in
set_option maxHeartbeats 4000000 in
theorem ok_X7_layNeeds_134 {E : Ev} {X : Xt} {l0 : Launch} {K : Hp → Prop} (hC : Cx E X l0 RX7 cX7_layNeeds 4 rm_X7_layNeeds) (hQ : CQ E X "layNeeds" none rm_X7_layNeeds (KV K)) : ∀ (n : Nat) (a0 : Nat) (a2 : Int32) (h : Hp), V_X7_layNeeds_134 K n a0 a2 h → WW E X h 0 0 134 [some (rv a0), none, some (.int a2), none] [] := by
  intro n
  induction n with
  | zero => intro a0 a2 h hV; exact hV.elim
  | succ n ih =>
    intro a0 a2 h hV
    unfold V_X7_layNeeds_134 at hV
    refine r_iload_n hC dX7_layNeeds_134 rfl ?_
    refine r_aload_n hC dX7_layNeeds_135 rfl ?_
    obtain ⟨k9, hV⟩ := hV
    refine r_getI hC dX7_layNeeds_136 fl_7_109 rf_7_11 lq_7 k9 ?_
    refine r_icmp_ge (tgt := 287) hC dX7_layNeeds_139 (by decide) (fun k9 => ?_) (fun k9 => ?_)
    · replace hV := hV.1 k9
      exact r_vret hC hQ dX7_layNeeds_287 (Nat.le_of_ble_eq_true rfl) (Nat.le_of_ble_eq_true rfl) ⟨rfl, hV⟩
    · replace hV := hV.2 k9
      refine r_aload_n hC dX7_layNeeds_142 rfl ?_
      obtain ⟨k9, hV⟩ := hV
      refine r_getR hC dX7_layNeeds_143 fl_7_43 rf_7_19 lq_7 k9 ?_
      refine r_iload_n hC dX7_layNeeds_146 rfl ?_
      refine r_aload_n hC dX7_layNeeds_147 rfl ?_
      obtain ⟨k9, hV⟩ := hV
      refine r_getR hC dX7_layNeeds_148 fl_7_34 rf_7_15 lq_7 k9 ?_
      refine r_iload_n hC dX7_layNeeds_151 rfl ?_
      obtain ⟨k9, k8, hV⟩ := hV
      refine r_iald (kd := 75) hC dX7_layNeeds_152 (by decide) rfl k9 k8 ?_
      refine r_iconst (v := 4) hC dX7_layNeeds_153 (by decide) ?_
      refine r_idiv hC dX7_layNeeds_154 (by decide) ?_
      refine r_aload_n hC dX7_layNeeds_155 rfl ?_
      obtain ⟨k9, hV⟩ := hV
      refine r_getR hC dX7_layNeeds_156 fl_7_40 rf_7_18 lq_7 k9 ?_
      refine r_bipush (v := 26) hC dX7_layNeeds_159 (by decide) ?_
      obtain ⟨k9, k8, hV⟩ := hV
      refine r_iald (kd := 78) hC dX7_layNeeds_161 (by decide) rfl k9 k8 ?_
      refine r_aload_n hC dX7_layNeeds_162 rfl ?_
      obtain ⟨k9, hV⟩ := hV
      refine r_getR hC dX7_layNeeds_163 fl_7_37 rf_7_17 lq_7 k9 ?_
      refine r_bipush (v := 26) hC dX7_layNeeds_166 (by decide) ?_
      obtain ⟨k9, k8, hV⟩ := hV
      refine r_iald (kd := 77) hC dX7_layNeeds_168 (by decide) rfl k9 k8 ?_
      refine r_isub hC dX7_layNeeds_169 ?_
      refine r_callS (As := [.int ((hI h (hR h a0 15) (ix a2)) / 4), .int ((hI h (hR h a0 18) (ix 26)) - (hI h (hR h a0 17) (ix 26)))]) hC dX7_layNeeds_170 rfl cf_X7_least ml_7_132 st_X7_least rfl ⟨Nat.le_of_ble_eq_true rfl, Nat.le_of_ble_eq_true rfl, Nat.le_of_ble_eq_true rfl, Nat.le_of_ble_eq_true rfl⟩ (csI (csR cs0)) (Nat.le_of_ble_eq_true rfl) (con_X7_least ((hI h (hR h a0 15) (ix a2)) / 4) ((hI h (hR h a0 18) (ix 26)) - (hI h (hR h a0 17) (ix 26))) h _ hV) rfl (kI (k := 0) (n := 0) (fun r1 h1 hV => ?_))
      obtain ⟨k9, k8, hV⟩ := hV
      refine r_iast (kd := 79) hC dX7_layNeeds_173 (by decide) rfl k9 k8 (nmH (fun h2 k9 => ?_))
      replace hV := hV h2 k9
      refine r_aload_n hC dX7_layNeeds_174 rfl ?_
      obtain ⟨k9, hV⟩ := hV
      refine r_getR hC dX7_layNeeds_175 fl_7_37 rf_7_17 lq_7 k9 ?_
      refine r_bipush (v := 26) hC dX7_layNeeds_178 (by decide) ?_
      refine r_dup2 hC dX7_layNeeds_180 rfl (rv_cat _) ?_
      obtain ⟨k9, k8, hV⟩ := hV
      refine r_iald (kd := 77) hC dX7_layNeeds_181 (by decide) rfl k9 k8 ?_
      refine r_aload_n hC dX7_layNeeds_182 rfl ?_
      obtain ⟨k9, hV⟩ := hV
      refine r_getR hC dX7_layNeeds_183 fl_7_43 rf_7_19 lq_7 k9 ?_
      refine r_iload_n hC dX7_layNeeds_186 rfl ?_
      obtain ⟨k9, k8, hV⟩ := hV
      refine r_iald (kd := 79) hC dX7_layNeeds_187 (by decide) rfl k9 k8 ?_
      refine r_iadd hC dX7_layNeeds_188 ?_
      obtain ⟨k9, k8, hV⟩ := hV
      refine r_iast (kd := 77) hC dX7_layNeeds_189 (by decide) rfl k9 k8 (nmH (fun h3 k9 => ?_))
      replace hV := hV h3 k9
      refine r_aload_n hC dX7_layNeeds_190 rfl ?_
      obtain ⟨k9, hV⟩ := hV
      refine r_getR hC dX7_layNeeds_191 fl_7_34 rf_7_15 lq_7 k9 ?_
      refine r_iload_n hC dX7_layNeeds_194 rfl ?_
      obtain ⟨k9, k8, hV⟩ := hV
      refine r_iald (kd := 75) hC dX7_layNeeds_195 (by decide) rfl k9 k8 ?_
      refine r_iconst (v := 4) hC dX7_layNeeds_196 (by decide) ?_
      refine r_aload_n hC dX7_layNeeds_197 rfl ?_
      obtain ⟨k9, hV⟩ := hV
      refine r_getR hC dX7_layNeeds_198 fl_7_43 rf_7_19 lq_7 k9 ?_
      refine r_iload_n hC dX7_layNeeds_201 rfl ?_
      obtain ⟨k9, k8, hV⟩ := hV
      refine r_iald (kd := 79) hC dX7_layNeeds_202 (by decide) rfl k9 k8 ?_
      refine r_imul hC dX7_layNeeds_203 ?_
      refine r_isub hC dX7_layNeeds_204 ?_
      refine r_istore_n (lo1 := [some (rv a0), none, some (.int a2), some (.int ((hI h3 (hR h3 a0 15) (ix a2)) - (4 * (hI h3 (hR h3 a0 19) (ix a2)))))]) hC dX7_layNeeds_205 (Nat.le_of_ble_eq_true rfl) rfl ?_
      refine r_aload_n hC dX7_layNeeds_206 rfl ?_
      obtain ⟨k9, hV⟩ := hV
      refine r_getR hC dX7_layNeeds_207 fl_7_46 rf_7_20 lq_7 k9 ?_
      refine r_iload_n hC dX7_layNeeds_210 rfl ?_
      refine r_iload_n hC dX7_layNeeds_211 rfl ?_
      refine r_iconst (v := 2) hC dX7_layNeeds_212 (by decide) ?_
      refine r_idiv hC dX7_layNeeds_213 (by decide) ?_
      refine r_aload_n hC dX7_layNeeds_214 rfl ?_
      obtain ⟨k9, hV⟩ := hV
      refine r_getR hC dX7_layNeeds_215 fl_7_40 rf_7_18 lq_7 k9 ?_
      refine r_bipush (v := 27) hC dX7_layNeeds_218 (by decide) ?_
      obtain ⟨k9, k8, hV⟩ := hV
      refine r_iald (kd := 78) hC dX7_layNeeds_220 (by decide) rfl k9 k8 ?_
      refine r_aload_n hC dX7_layNeeds_221 rfl ?_
      obtain ⟨k9, hV⟩ := hV
      refine r_getR hC dX7_layNeeds_222 fl_7_37 rf_7_17 lq_7 k9 ?_
      refine r_bipush (v := 27) hC dX7_layNeeds_225 (by decide) ?_
      obtain ⟨k9, k8, hV⟩ := hV
      refine r_iald (kd := 77) hC dX7_layNeeds_227 (by decide) rfl k9 k8 ?_
      refine r_isub hC dX7_layNeeds_228 ?_
      refine r_callS (As := [.int (((hI h3 (hR h3 a0 15) (ix a2)) - (4 * (hI h3 (hR h3 a0 19) (ix a2)))) / 2), .int ((hI h3 (hR h3 a0 18) (ix 27)) - (hI h3 (hR h3 a0 17) (ix 27)))]) hC dX7_layNeeds_229 rfl cf_X7_least ml_7_132 st_X7_least rfl ⟨Nat.le_of_ble_eq_true rfl, Nat.le_of_ble_eq_true rfl, Nat.le_of_ble_eq_true rfl, Nat.le_of_ble_eq_true rfl⟩ (csI (csR cs0)) (Nat.le_of_ble_eq_true rfl) (con_X7_least (((hI h3 (hR h3 a0 15) (ix a2)) - (4 * (hI h3 (hR h3 a0 19) (ix a2)))) / 2) ((hI h3 (hR h3 a0 18) (ix 27)) - (hI h3 (hR h3 a0 17) (ix 27))) h3 _ hV) rfl (kI (k := 0) (n := 0) (fun r2 h4 hV => ?_))
      obtain ⟨k9, k8, hV⟩ := hV
      refine r_iast (kd := 80) hC dX7_layNeeds_232 (by decide) rfl k9 k8 (nmH (fun h5 k9 => ?_))
      replace hV := hV h5 k9
      refine r_aload_n hC dX7_layNeeds_233 rfl ?_
      obtain ⟨k9, hV⟩ := hV
      refine r_getR hC dX7_layNeeds_234 fl_7_37 rf_7_17 lq_7 k9 ?_
      refine r_bipush (v := 27) hC dX7_layNeeds_237 (by decide) ?_
      refine r_dup2 hC dX7_layNeeds_239 rfl (rv_cat _) ?_
      obtain ⟨k9, k8, hV⟩ := hV
      refine r_iald (kd := 77) hC dX7_layNeeds_240 (by decide) rfl k9 k8 ?_
      refine r_aload_n hC dX7_layNeeds_241 rfl ?_
      obtain ⟨k9, hV⟩ := hV
      refine r_getR hC dX7_layNeeds_242 fl_7_46 rf_7_20 lq_7 k9 ?_
      refine r_iload_n hC dX7_layNeeds_245 rfl ?_
      obtain ⟨k9, k8, hV⟩ := hV
      refine r_iald (kd := 80) hC dX7_layNeeds_246 (by decide) rfl k9 k8 ?_
      refine r_iadd hC dX7_layNeeds_247 ?_
      obtain ⟨k9, k8, hV⟩ := hV
      refine r_iast (kd := 77) hC dX7_layNeeds_248 (by decide) rfl k9 k8 (nmH (fun h6 k9 => ?_))
      replace hV := hV h6 k9
      refine r_aload_n hC dX7_layNeeds_249 rfl ?_
      obtain ⟨k9, hV⟩ := hV
      refine r_getR hC dX7_layNeeds_250 fl_7_49 rf_7_21 lq_7 k9 ?_
      refine r_iload_n hC dX7_layNeeds_253 rfl ?_
      refine r_iload_n hC dX7_layNeeds_254 rfl ?_
      refine r_iconst (v := 2) hC dX7_layNeeds_255 (by decide) ?_
      refine r_aload_n hC dX7_layNeeds_256 rfl ?_
      obtain ⟨k9, hV⟩ := hV
      refine r_getR hC dX7_layNeeds_257 fl_7_46 rf_7_20 lq_7 k9 ?_
      refine r_iload_n hC dX7_layNeeds_260 rfl ?_
      obtain ⟨k9, k8, hV⟩ := hV
      refine r_iald (kd := 80) hC dX7_layNeeds_261 (by decide) rfl k9 k8 ?_
      refine r_imul hC dX7_layNeeds_262 ?_
      refine r_isub hC dX7_layNeeds_263 ?_
      obtain ⟨k9, k8, hV⟩ := hV
      refine r_iast (kd := 81) hC dX7_layNeeds_264 (by decide) rfl k9 k8 (nmH (fun h7 k9 => ?_))
      replace hV := hV h7 k9
      refine r_aload_n hC dX7_layNeeds_265 rfl ?_
      obtain ⟨k9, hV⟩ := hV
      refine r_getR hC dX7_layNeeds_266 fl_7_37 rf_7_17 lq_7 k9 ?_
      refine r_bipush (v := 28) hC dX7_layNeeds_269 (by decide) ?_
      refine r_dup2 hC dX7_layNeeds_271 rfl (rv_cat _) ?_
      obtain ⟨k9, k8, hV⟩ := hV
      refine r_iald (kd := 77) hC dX7_layNeeds_272 (by decide) rfl k9 k8 ?_
      refine r_aload_n hC dX7_layNeeds_273 rfl ?_
      obtain ⟨k9, hV⟩ := hV
      refine r_getR hC dX7_layNeeds_274 fl_7_49 rf_7_21 lq_7 k9 ?_
      refine r_iload_n hC dX7_layNeeds_277 rfl ?_
      obtain ⟨k9, k8, hV⟩ := hV
      refine r_iald (kd := 81) hC dX7_layNeeds_278 (by decide) rfl k9 k8 ?_
      refine r_iadd hC dX7_layNeeds_279 ?_
      obtain ⟨k9, k8, hV⟩ := hV
      refine r_iast (kd := 77) hC dX7_layNeeds_280 (by decide) rfl k9 k8 (nmH (fun h8 k9 => ?_))
      replace hV := hV h8 k9
      refine r_iinc (v := 1) (lo1 := [some (rv a0), none, some (.int (a2 + 1)), some (.int ((hI h3 (hR h3 a0 15) (ix a2)) - (4 * (hI h3 (hR h3 a0 19) (ix a2)))))]) hC dX7_layNeeds_281 rfl (by decide) rfl ?_
      refine r_goto (tgt := 134) hC dX7_layNeeds_284 (by decide) ?_
      refine r_sub (lo1 := [some (rv a0), none, some (.int (a2 + 1)), none]) ⟨Or.inr rfl, ⟨Or.inl rfl, ⟨Or.inr rfl, ⟨Or.inl rfl, trivial⟩⟩⟩⟩ ?_
      exact ih a0 (a2 + 1) h8 hV
set_option maxRecDepth 100000 in
set_option maxHeartbeats 4000000 in
theorem ok_X7_layNeeds_88 {E : Ev} {X : Xt} {l0 : Launch} {K : Hp → Prop} (hC : Cx E X l0 RX7 cX7_layNeeds 4 rm_X7_layNeeds) (hQ : CQ E X "layNeeds" none rm_X7_layNeeds (KV K)) : ∀ (n : Nat) (a0 : Nat) (a2 : Int32) (h : Hp), V_X7_layNeeds_88 K n a0 a2 h → WW E X h 0 0 88 [some (rv a0), none, some (.int a2), none] [] := by
  intro n
  induction n with
  | zero => intro a0 a2 h hV; exact hV.elim
  | succ n ih =>
    intro a0 a2 h hV
    unfold V_X7_layNeeds_88 at hV
    refine r_iload_n hC dX7_layNeeds_88 rfl ?_
    refine r_aload_n hC dX7_layNeeds_89 rfl ?_
    obtain ⟨k9, hV⟩ := hV
    refine r_getI hC dX7_layNeeds_90 fl_7_112 rf_7_7 lq_7 k9 ?_
    refine r_icmp_ge (tgt := 132) hC dX7_layNeeds_93 (by decide) (fun k9 => ?_) (fun k9 => ?_)
    · replace hV := hV.1 k9
      refine r_iconst (v := 0) hC dX7_layNeeds_132 (by decide) ?_
      refine r_istore_n (lo1 := [some (rv a0), none, some (.int 0), none]) hC dX7_layNeeds_133 (Nat.le_of_ble_eq_true rfl) rfl ?_
      obtain ⟨n9, hV⟩ := hV
      exact ok_X7_layNeeds_134 hC hQ n9 a0 0 h hV
    · replace hV := hV.2 k9
      refine r_aload_n hC dX7_layNeeds_96 rfl ?_
      obtain ⟨k9, hV⟩ := hV
      refine r_getR hC dX7_layNeeds_97 fl_7_22 rf_7_8 lq_7 k9 ?_
      refine r_iload_n hC dX7_layNeeds_100 rfl ?_
      obtain ⟨k9, k8, hV⟩ := hV
      refine r_iald (kd := 68) hC dX7_layNeeds_101 (by decide) rfl k9 k8 ?_
      refine r_callS (As := [.int (hI h (hR h a0 8) (ix a2))]) hC dX7_layNeeds_102 rfl cf_X7_isLetter ml_7_96 st_X7_isLetter rfl ⟨Nat.le_of_ble_eq_true rfl, Nat.le_of_ble_eq_true rfl, Nat.le_of_ble_eq_true rfl, Nat.le_of_ble_eq_true rfl⟩ cs0 (Nat.le_of_ble_eq_true rfl) (con_X7_isLetter (hI h (hR h a0 8) (ix a2)) h _ hV) rfl (kI (k := 0) (n := 0) (fun r1 h1 hV => ?_))
      refine r_if_eq (tgt := 126) hC dX7_layNeeds_105 (by decide) (fun k9 => ?_) (fun k9 => ?_)
      · replace hV := hV.1 k9
        exact ok_X7_layNeeds_126 hC hQ ih a0 a2 h1 hV
      · replace hV := hV.2 k9
        refine r_aload_n hC dX7_layNeeds_108 rfl ?_
        obtain ⟨k9, hV⟩ := hV
        refine r_getR hC dX7_layNeeds_109 fl_7_37 rf_7_17 lq_7 k9 ?_
        refine r_aload_n hC dX7_layNeeds_112 rfl ?_
        obtain ⟨k9, hV⟩ := hV
        refine r_getR hC dX7_layNeeds_113 fl_7_22 rf_7_8 lq_7 k9 ?_
        refine r_iload_n hC dX7_layNeeds_116 rfl ?_
        obtain ⟨k9, k8, hV⟩ := hV
        refine r_iald (kd := 68) hC dX7_layNeeds_117 (by decide) rfl k9 k8 ?_
        refine r_bipush (v := 97) hC dX7_layNeeds_118 (by decide) ?_
        refine r_isub hC dX7_layNeeds_120 ?_
        refine r_dup2 hC dX7_layNeeds_121 rfl (rv_cat _) ?_
        obtain ⟨k9, k8, hV⟩ := hV
        refine r_iald (kd := 77) hC dX7_layNeeds_122 (by decide) rfl k9 k8 ?_
        refine r_iconst (v := 1) hC dX7_layNeeds_123 (by decide) ?_
        refine r_iadd hC dX7_layNeeds_124 ?_
        obtain ⟨k9, k8, hV⟩ := hV
        refine r_iast (kd := 77) hC dX7_layNeeds_125 (by decide) rfl k9 k8 (nmH (fun h2 k9 => ?_))
        replace hV := hV h2 k9
        exact ok_X7_layNeeds_126 hC hQ ih a0 a2 h2 hV
set_option maxRecDepth 100000 in
set_option maxHeartbeats 4000000 in
theorem ok_X7_layNeeds_7 {E : Ev} {X : Xt} {l0 : Launch} {K : Hp → Prop} (hC : Cx E X l0 RX7 cX7_layNeeds 4 rm_X7_layNeeds) (hQ : CQ E X "layNeeds" none rm_X7_layNeeds (KV K)) : ∀ (n : Nat) (a0 : Nat) (a1 : Int32) (a2 : Int32) (h : Hp), V_X7_layNeeds_7 K n a0 a1 a2 h → WW E X h 0 0 7 [some (rv a0), some (.int a1), some (.int a2), none] [] := by
  intro n
  induction n with
  | zero => intro a0 a1 a2 h hV; exact hV.elim
  | succ n ih =>
    intro a0 a1 a2 h hV
    unfold V_X7_layNeeds_7 at hV
    refine r_iload_n hC dX7_layNeeds_7 rfl ?_
    refine r_bipush (v := 29) hC dX7_layNeeds_8 (by decide) ?_
    refine r_icmp_ge (tgt := 86) hC dX7_layNeeds_10 (by decide) (fun k9 => ?_) (fun k9 => ?_)
    · replace hV := hV.1 k9
      refine r_iconst (v := 0) hC dX7_layNeeds_86 (by decide) ?_
      refine r_istore_n (lo1 := [some (rv a0), some (.int a1), some (.int 0), none]) hC dX7_layNeeds_87 (Nat.le_of_ble_eq_true rfl) rfl ?_
      refine r_sub (lo1 := [some (rv a0), none, some (.int 0), none]) ⟨Or.inr rfl, ⟨Or.inl rfl, ⟨Or.inr rfl, ⟨Or.inl rfl, trivial⟩⟩⟩⟩ ?_
      obtain ⟨n9, hV⟩ := hV
      exact ok_X7_layNeeds_88 hC hQ n9 a0 0 h hV
    · replace hV := hV.2 k9
      refine r_aload_n hC dX7_layNeeds_13 rfl ?_
      obtain ⟨k9, hV⟩ := hV
      refine r_getR hC dX7_layNeeds_14 fl_7_37 rf_7_17 lq_7 k9 ?_
      refine r_iload_n hC dX7_layNeeds_17 rfl ?_
      refine r_iconst (v := 0) hC dX7_layNeeds_18 (by decide) ?_
      obtain ⟨k9, k8, hV⟩ := hV
      refine r_iast (kd := 77) hC dX7_layNeeds_19 (by decide) rfl k9 k8 (nmH (fun h1 k9 => ?_))
      replace hV := hV h1 k9
      refine r_aload_n hC dX7_layNeeds_20 rfl ?_
      obtain ⟨k9, hV⟩ := hV
      refine r_getR hC dX7_layNeeds_21 fl_7_40 rf_7_18 lq_7 k9 ?_
      refine r_iload_n hC dX7_layNeeds_24 rfl ?_
      refine r_iconst (v := 0) hC dX7_layNeeds_25 (by decide) ?_
      obtain ⟨k9, k8, hV⟩ := hV
      refine r_iast (kd := 78) hC dX7_layNeeds_26 (by decide) rfl k9 k8 (nmH (fun h2 k9 => ?_))
      replace hV := hV h2 k9
      refine r_iconst (v := 0) hC dX7_layNeeds_27 (by decide) ?_
      refine r_istore_n (lo1 := [some (rv a0), some (.int a1), some (.int a2), some (.int 0)]) hC dX7_layNeeds_28 (Nat.le_of_ble_eq_true rfl) rfl ?_
      obtain ⟨n9, hV⟩ := hV
      exact ok_X7_layNeeds_29 hC hQ ih n9 a0 a1 a2 0 h2 hV
set_option maxRecDepth 100000 in
set_option maxHeartbeats 4000000 in
theorem ok_X7_layNeeds_0 {E : Ev} {X : Xt} {l0 : Launch} {K : Hp → Prop} (hC : Cx E X l0 RX7 cX7_layNeeds 4 rm_X7_layNeeds) (hQ : CQ E X "layNeeds" none rm_X7_layNeeds (KV K)) (a0 : Nat) (a1 : Int32) (h : Hp) (hV : V_X7_layNeeds a0 a1 h K) : WW E X h 0 0 0 [some (rv a0), some (.int a1), none, none] [] := by
  unfold V_X7_layNeeds at hV
  refine r_aload_n hC dX7_layNeeds_0 rfl ?_
  refine r_iload_n hC dX7_layNeeds_1 rfl ?_
  obtain ⟨k9, hV⟩ := hV
  refine r_callV (ci := 7) (As := [.int a1]) hC dX7_layNeeds_2 rfl cf_X7_layJob ml_7_122 im_X7_layJob sl_X7_layJob lq_7 rfl rfl k9 rfl ⟨Nat.le_of_ble_eq_true rfl, Nat.le_of_ble_eq_true rfl, Nat.le_of_ble_eq_true rfl, Nat.le_of_ble_eq_true rfl⟩ cs0 (Nat.le_of_ble_eq_true rfl) (con_X7_layJob a0 a1 h _ hV) rfl (kV (k := 0) (n := 0) (fun h1 hV => ?_))
  refine r_iconst (v := 0) hC dX7_layNeeds_5 (by decide) ?_
  refine r_istore_n (lo1 := [some (rv a0), some (.int a1), some (.int 0), none]) hC dX7_layNeeds_6 (Nat.le_of_ble_eq_true rfl) rfl ?_
  obtain ⟨n9, hV⟩ := hV
  exact ok_X7_layNeeds_7 hC hQ n9 a0 a1 0 h1 hV
set_option maxRecDepth 100000 in
set_option maxHeartbeats 4000000 in
theorem con_X7_layNeeds {E : Ev} {l0 : Launch} (a0 : Nat) (a1 : Int32) (h : Hp) (K : Hp → Prop) (hV : V_X7_layNeeds a0 a1 h K) : Con E l0 yX7_layNeeds cX7_layNeeds 4 none rm_X7_layNeeds [rv a0, .int a1] h (KV K) := by
  refine Con.of (by decide +kernel) (cat_R (cat_I cat_nil)) (Nat.le_of_ble_eq_true rfl) (fun X hC hQ => ?_)
  refine r_sub (lo1 := [some (rv a0), some (.int a1), none, none]) (show lsub [some (rv a0), some (.int a1), none, none] _ from ⟨Or.inr rfl, ⟨Or.inr rfl, ⟨Or.inr rfl, ⟨Or.inr rfl, trivial⟩⟩⟩⟩) ?_
  exact ok_X7_layNeeds_0 hC hQ a0 a1 h hV
theorem dX7_castMissing_0 : decode cX7_castMissing 0 = .ok (.aload_n 0, 1) := by decide +kernel
theorem dX7_castMissing_1 : decode cX7_castMissing 1 = .ok (.iload_n 1, 1) := by decide +kernel
theorem dX7_castMissing_2 : decode cX7_castMissing 2 = .ok (.invokevirtual 144, 3) := by decide +kernel
theorem dX7_castMissing_5 : decode cX7_castMissing 5 = .ok (.ifCond .eq 5, 3) := by decide +kernel
theorem dX7_castMissing_8 : decode cX7_castMissing 8 = .ok (.iconst (-1), 1) := by decide +kernel
theorem dX7_castMissing_9 : decode cX7_castMissing 9 = .ok (.ireturn, 1) := by decide +kernel
theorem dX7_castMissing_10 : decode cX7_castMissing 10 = .ok (.aload_n 0, 1) := by decide +kernel
theorem dX7_castMissing_11 : decode cX7_castMissing 11 = .ok (.iload_n 1, 1) := by decide +kernel
theorem dX7_castMissing_12 : decode cX7_castMissing 12 = .ok (.iconst 3, 1) := by decide +kernel
theorem dX7_castMissing_13 : decode cX7_castMissing 13 = .ok (.invokevirtual 60, 3) := by decide +kernel
theorem dX7_castMissing_16 : decode cX7_castMissing 16 = .ok (.ifCond .eq 6, 3) := by decide +kernel
theorem dX7_castMissing_19 : decode cX7_castMissing 19 = .ok (.bipush (-4), 2) := by decide +kernel
theorem dX7_castMissing_21 : decode cX7_castMissing 21 = .ok (.ireturn, 1) := by decide +kernel
theorem dX7_castMissing_22 : decode cX7_castMissing 22 = .ok (.aload_n 0, 1) := by decide +kernel
theorem dX7_castMissing_23 : decode cX7_castMissing 23 = .ok (.iload_n 1, 1) := by decide +kernel
theorem dX7_castMissing_24 : decode cX7_castMissing 24 = .ok (.invokevirtual 147, 3) := by decide +kernel
theorem dX7_castMissing_27 : decode cX7_castMissing 27 = .ok (.aload_n 0, 1) := by decide +kernel
theorem dX7_castMissing_28 : decode cX7_castMissing 28 = .ok (.invokevirtual 150, 3) := by decide +kernel
theorem dX7_castMissing_31 : decode cX7_castMissing 31 = .ok (.istore_n 2, 1) := by decide +kernel
theorem dX7_castMissing_32 : decode cX7_castMissing 32 = .ok (.iload_n 2, 1) := by decide +kernel
theorem dX7_castMissing_33 : decode cX7_castMissing 33 = .ok (.ifCond .ne 6, 3) := by decide +kernel
theorem dX7_castMissing_36 : decode cX7_castMissing 36 = .ok (.bipush (-5), 2) := by decide +kernel
theorem dX7_castMissing_38 : decode cX7_castMissing 38 = .ok (.ireturn, 1) := by decide +kernel
theorem dX7_castMissing_39 : decode cX7_castMissing 39 = .ok (.aload_n 0, 1) := by decide +kernel
theorem dX7_castMissing_40 : decode cX7_castMissing 40 = .ok (.iload_n 1, 1) := by decide +kernel
theorem dX7_castMissing_41 : decode cX7_castMissing 41 = .ok (.iconst 0, 1) := by decide +kernel
theorem dX7_castMissing_42 : decode cX7_castMissing 42 = .ok (.invokevirtual 60, 3) := by decide +kernel
theorem dX7_castMissing_45 : decode cX7_castMissing 45 = .ok (.istore_n 3, 1) := by decide +kernel
theorem dX7_castMissing_46 : decode cX7_castMissing 46 = .ok (.iconst 0, 1) := by decide +kernel
theorem dX7_castMissing_47 : decode cX7_castMissing 47 = .ok (.istore 4, 2) := by decide +kernel
theorem dX7_castMissing_49 : decode cX7_castMissing 49 = .ok (.iconst 0, 1) := by decide +kernel
theorem dX7_castMissing_50 : decode cX7_castMissing 50 = .ok (.istore 5, 2) := by decide +kernel
theorem dX7_castMissing_52 : decode cX7_castMissing 52 = .ok (.iconst 0, 1) := by decide +kernel
theorem dX7_castMissing_53 : decode cX7_castMissing 53 = .ok (.istore 6, 2) := by decide +kernel
theorem dX7_castMissing_55 : decode cX7_castMissing 55 = .ok (.iload 6, 2) := by decide +kernel
theorem dX7_castMissing_57 : decode cX7_castMissing 57 = .ok (.bipush 29, 2) := by decide +kernel
theorem dX7_castMissing_59 : decode cX7_castMissing 59 = .ok (.if_icmp .ge 66, 3) := by decide +kernel
theorem dX7_castMissing_62 : decode cX7_castMissing 62 = .ok (.iload 5, 2) := by decide +kernel
theorem dX7_castMissing_64 : decode cX7_castMissing 64 = .ok (.ifCond .ne 31, 3) := by decide +kernel
theorem dX7_castMissing_67 : decode cX7_castMissing 67 = .ok (.aload_n 0, 1) := by decide +kernel
theorem dX7_castMissing_68 : decode cX7_castMissing 68 = .ok (.iload 6, 2) := by decide +kernel
theorem dX7_castMissing_70 : decode cX7_castMissing 70 = .ok (.invokevirtual 135, 3) := by decide +kernel
theorem dX7_castMissing_73 : decode cX7_castMissing 73 = .ok (.ifCond .le 26, 3) := by decide +kernel
theorem dX7_castMissing_76 : decode cX7_castMissing 76 = .ok (.aload_n 0, 1) := by decide +kernel
theorem dX7_castMissing_77 : decode cX7_castMissing 77 = .ok (.iload_n 3, 1) := by decide +kernel
theorem dX7_castMissing_78 : decode cX7_castMissing 78 = .ok (.iload 6, 2) := by decide +kernel
theorem dX7_castMissing_80 : decode cX7_castMissing 80 = .ok (.invokevirtual 79, 3) := by decide +kernel
theorem dX7_castMissing_83 : decode cX7_castMissing 83 = .ok (.aload_n 0, 1) := by decide +kernel
theorem dX7_castMissing_84 : decode cX7_castMissing 84 = .ok (.iload 6, 2) := by decide +kernel
theorem dX7_castMissing_86 : decode cX7_castMissing 86 = .ok (.invokevirtual 135, 3) := by decide +kernel
theorem dX7_castMissing_89 : decode cX7_castMissing 89 = .ok (.iadd, 1) := by decide +kernel
theorem dX7_castMissing_90 : decode cX7_castMissing 90 = .ok (.bipush 99, 2) := by decide +kernel
theorem dX7_castMissing_92 : decode cX7_castMissing 92 = .ok (.if_icmp .le 7, 3) := by decide +kernel
theorem dX7_castMissing_95 : decode cX7_castMissing 95 = .ok (.iconst 1, 1) := by decide +kernel
theorem dX7_castMissing_96 : decode cX7_castMissing 96 = .ok (.goto 4, 3) := by decide +kernel
theorem dX7_castMissing_99 : decode cX7_castMissing 99 = .ok (.iconst 0, 1) := by decide +kernel
theorem dX7_castMissing_100 : decode cX7_castMissing 100 = .ok (.istore 5, 2) := by decide +kernel
theorem dX7_castMissing_102 : decode cX7_castMissing 102 = .ok (.iload 4, 2) := by decide +kernel
theorem dX7_castMissing_104 : decode cX7_castMissing 104 = .ok (.aload_n 0, 1) := by decide +kernel
theorem dX7_castMissing_105 : decode cX7_castMissing 105 = .ok (.iload 6, 2) := by decide +kernel
theorem dX7_castMissing_107 : decode cX7_castMissing 107 = .ok (.invokevirtual 135, 3) := by decide +kernel
theorem dX7_castMissing_110 : decode cX7_castMissing 110 = .ok (.iload 6, 2) := by decide +kernel
theorem dX7_castMissing_112 : decode cX7_castMissing 112 = .ok (.invokestatic 68, 3) := by decide +kernel
theorem dX7_castMissing_115 : decode cX7_castMissing 115 = .ok (.imul, 1) := by decide +kernel
theorem dX7_castMissing_116 : decode cX7_castMissing 116 = .ok (.iadd, 1) := by decide +kernel
theorem dX7_castMissing_117 : decode cX7_castMissing 117 = .ok (.istore 4, 2) := by decide +kernel
theorem dX7_castMissing_119 : decode cX7_castMissing 119 = .ok (.iinc 6 1, 3) := by decide +kernel
theorem dX7_castMissing_122 : decode cX7_castMissing 122 = .ok (.goto (-67), 3) := by decide +kernel
theorem dX7_castMissing_125 : decode cX7_castMissing 125 = .ok (.iload 5, 2) := by decide +kernel
theorem dX7_castMissing_127 : decode cX7_castMissing 127 = .ok (.ifCond .eq 6, 3) := by decide +kernel
theorem dX7_castMissing_130 : decode cX7_castMissing 130 = .ok (.bipush (-3), 2) := by decide +kernel
theorem dX7_castMissing_132 : decode cX7_castMissing 132 = .ok (.ireturn, 1) := by decide +kernel
theorem dX7_castMissing_133 : decode cX7_castMissing 133 = .ok (.iload 4, 2) := by decide +kernel
theorem dX7_castMissing_135 : decode cX7_castMissing 135 = .ok (.aload_n 0, 1) := by decide +kernel
theorem dX7_castMissing_136 : decode cX7_castMissing 136 = .ok (.getfield 7, 3) := by decide +kernel
theorem dX7_castMissing_139 : decode cX7_castMissing 139 = .ok (.iconst 2, 1) := by decide +kernel
theorem dX7_castMissing_140 : decode cX7_castMissing 140 = .ok (.iaload, 1) := by decide +kernel
theorem dX7_castMissing_141 : decode cX7_castMissing 141 = .ok (.if_icmp .le 6, 3) := by decide +kernel
theorem dX7_castMissing_144 : decode cX7_castMissing 144 = .ok (.bipush (-4), 2) := by decide +kernel
theorem dX7_castMissing_146 : decode cX7_castMissing 146 = .ok (.ireturn, 1) := by decide +kernel
theorem dX7_castMissing_147 : decode cX7_castMissing 147 = .ok (.aload_n 0, 1) := by decide +kernel
theorem dX7_castMissing_148 : decode cX7_castMissing 148 = .ok (.invokevirtual 65, 3) := by decide +kernel
theorem dX7_castMissing_151 : decode cX7_castMissing 151 = .ok (.iconst 0, 1) := by decide +kernel
theorem dX7_castMissing_152 : decode cX7_castMissing 152 = .ok (.istore 6, 2) := by decide +kernel
theorem dX7_castMissing_154 : decode cX7_castMissing 154 = .ok (.iload 6, 2) := by decide +kernel
theorem dX7_castMissing_156 : decode cX7_castMissing 156 = .ok (.bipush 29, 2) := by decide +kernel
theorem dX7_castMissing_158 : decode cX7_castMissing 158 = .ok (.if_icmp .ge 22, 3) := by decide +kernel
theorem dX7_castMissing_161 : decode cX7_castMissing 161 = .ok (.aload_n 0, 1) := by decide +kernel
theorem dX7_castMissing_162 : decode cX7_castMissing 162 = .ok (.iload_n 3, 1) := by decide +kernel
theorem dX7_castMissing_163 : decode cX7_castMissing 163 = .ok (.iload 6, 2) := by decide +kernel
theorem dX7_castMissing_165 : decode cX7_castMissing 165 = .ok (.aload_n 0, 1) := by decide +kernel
theorem dX7_castMissing_166 : decode cX7_castMissing 166 = .ok (.iload 6, 2) := by decide +kernel
theorem dX7_castMissing_168 : decode cX7_castMissing 168 = .ok (.invokevirtual 135, 3) := by decide +kernel
theorem dX7_castMissing_171 : decode cX7_castMissing 171 = .ok (.invokevirtual 82, 3) := by decide +kernel
theorem dX7_castMissing_174 : decode cX7_castMissing 174 = .ok (.iinc 6 1, 3) := by decide +kernel
theorem dX7_castMissing_177 : decode cX7_castMissing 177 = .ok (.goto (-23), 3) := by decide +kernel
theorem dX7_castMissing_180 : decode cX7_castMissing 180 = .ok (.iload_n 2, 1) := by decide +kernel
theorem dX7_castMissing_181 : decode cX7_castMissing 181 = .ok (.ireturn, 1) := by decide +kernel
def rm_X7_castMissing : Room := { frames := 6, cells := 0, slots := 0, locals := 137 }
set_option maxRecDepth 100000 in
set_option maxHeartbeats 4000000 in
theorem ok_X7_castMissing_100 {E : Ev} {X : Xt} {l0 : Launch} {K : Int32 → Hp → Prop} {C55 : Nat → Int32 → Int32 → Int32 → Int32 → Int32 → Hp → Prop} (hC : Cx E X l0 RX7 cX7_castMissing 7 rm_X7_castMissing) (hQ : CQ E X "castMissing" (some .int) rm_X7_castMissing (KI K)) (hC55 : ∀ (a0 : Nat) (a2 : Int32) (a3 : Int32) (a4 : Int32) (a5 : Int32) (a6 : Int32) (h : Hp), C55 a0 a2 a3 a4 a5 a6 h → WW E X h 0 0 55 [some (rv a0), none, some (.int a2), some (.int a3), some (.int a4), some (.int a5), some (.int a6)] []) (a0 : Nat) (a2 : Int32) (a3 : Int32) (a4 : Int32) (a6 : Int32) (s0 : Int32) (h : Hp) (hV : V_X7_castMissing_100 K C55 a0 a2 a3 a4 a6 s0 h) : WW E X h 0 0 100 [some (rv a0), none, some (.int a2), some (.int a3), some (.int a4), none, some (.int a6)] [.int s0] := by
  unfold V_X7_castMissing_100 at hV
  refine r_istore (lo1 := [some (rv a0), none, some (.int a2), some (.int a3), some (.int a4), some (.int s0), some (.int a6)]) hC dX7_castMissing_100 (Nat.le_of_ble_eq_true rfl) rfl ?_
  refine r_iload hC dX7_castMissing_102 rfl ?_
  refine r_aload_n hC dX7_castMissing_104 rfl ?_
  refine r_iload hC dX7_castMissing_105 rfl ?_
  obtain ⟨k9, hV⟩ := hV
  refine r_callV (ci := 7) (As := [.int a6]) hC dX7_castMissing_107 rfl cf_X7_lacks ml_7_135 im_X7_lacks sl_X7_lacks lq_7 rfl rfl k9 rfl ⟨Nat.le_of_ble_eq_true rfl, Nat.le_of_ble_eq_true rfl, Nat.le_of_ble_eq_true rfl, Nat.le_of_ble_eq_true rfl⟩ (csI cs0) (Nat.le_of_ble_eq_true rfl) (con_X7_lacks a0 a6 h _ hV) rfl (kI (k := 0) (n := 0) (fun r1 h1 hV => ?_))
  refine r_iload hC dX7_castMissing_110 rfl ?_
  refine r_callS (As := [.int a6]) hC dX7_castMissing_112 rfl cf_X7_width ml_7_68 st_X7_width rfl ⟨Nat.le_of_ble_eq_true rfl, Nat.le_of_ble_eq_true rfl, Nat.le_of_ble_eq_true rfl, Nat.le_of_ble_eq_true rfl⟩ (csI (csI cs0)) (Nat.le_of_ble_eq_true rfl) (con_X7_width a6 h1 _ hV) rfl (kI (k := 0) (n := 0) (fun r2 h2 hV => ?_))
  refine r_imul hC dX7_castMissing_115 ?_
  refine r_iadd hC dX7_castMissing_116 ?_
  refine r_istore (lo1 := [some (rv a0), none, some (.int a2), some (.int a3), some (.int (a4 + (r1 * r2))), some (.int s0), some (.int a6)]) hC dX7_castMissing_117 (Nat.le_of_ble_eq_true rfl) rfl ?_
  refine r_iinc (v := 1) (lo1 := [some (rv a0), none, some (.int a2), some (.int a3), some (.int (a4 + (r1 * r2))), some (.int s0), some (.int (a6 + 1))]) hC dX7_castMissing_119 rfl (by decide) rfl ?_
  refine r_goto (tgt := 55) hC dX7_castMissing_122 (by decide) ?_
  exact hC55 a0 a2 a3 (a4 + (r1 * r2)) s0 (a6 + 1) h2 hV
set_option maxRecDepth 100000 in
set_option maxHeartbeats 4000000 in
theorem ok_X7_castMissing_95 {E : Ev} {X : Xt} {l0 : Launch} {K : Int32 → Hp → Prop} {C55 : Nat → Int32 → Int32 → Int32 → Int32 → Int32 → Hp → Prop} (hC : Cx E X l0 RX7 cX7_castMissing 7 rm_X7_castMissing) (hQ : CQ E X "castMissing" (some .int) rm_X7_castMissing (KI K)) (hC55 : ∀ (a0 : Nat) (a2 : Int32) (a3 : Int32) (a4 : Int32) (a5 : Int32) (a6 : Int32) (h : Hp), C55 a0 a2 a3 a4 a5 a6 h → WW E X h 0 0 55 [some (rv a0), none, some (.int a2), some (.int a3), some (.int a4), some (.int a5), some (.int a6)] []) (a0 : Nat) (a2 : Int32) (a3 : Int32) (a4 : Int32) (a6 : Int32) (h : Hp) (hV : V_X7_castMissing_95 K C55 a0 a2 a3 a4 a6 h) : WW E X h 0 0 95 [some (rv a0), none, some (.int a2), some (.int a3), some (.int a4), none, some (.int a6)] [] := by
  unfold V_X7_castMissing_95 at hV
  refine r_iconst (v := 1) hC dX7_castMissing_95 (by decide) ?_
  refine r_goto (tgt := 100) hC dX7_castMissing_96 (by decide) ?_
  exact ok_X7_castMissing_100 hC hQ hC55 a0 a2 a3 a4 a6 1 h hV
set_option maxRecDepth 100000 in
set_option maxHeartbeats 4000000 in
theorem ok_X7_castMissing_99 {E : Ev} {X : Xt} {l0 : Launch} {K : Int32 → Hp → Prop} {C55 : Nat → Int32 → Int32 → Int32 → Int32 → Int32 → Hp → Prop} (hC : Cx E X l0 RX7 cX7_castMissing 7 rm_X7_castMissing) (hQ : CQ E X "castMissing" (some .int) rm_X7_castMissing (KI K)) (hC55 : ∀ (a0 : Nat) (a2 : Int32) (a3 : Int32) (a4 : Int32) (a5 : Int32) (a6 : Int32) (h : Hp), C55 a0 a2 a3 a4 a5 a6 h → WW E X h 0 0 55 [some (rv a0), none, some (.int a2), some (.int a3), some (.int a4), some (.int a5), some (.int a6)] []) (a0 : Nat) (a2 : Int32) (a3 : Int32) (a4 : Int32) (a6 : Int32) (h : Hp) (hV : V_X7_castMissing_99 K C55 a0 a2 a3 a4 a6 h) : WW E X h 0 0 99 [some (rv a0), none, some (.int a2), some (.int a3), some (.int a4), none, some (.int a6)] [] := by
  unfold V_X7_castMissing_99 at hV
  refine r_iconst (v := 0) hC dX7_castMissing_99 (by decide) ?_
  exact ok_X7_castMissing_100 hC hQ hC55 a0 a2 a3 a4 a6 0 h hV
set_option maxRecDepth 100000 in
set_option maxHeartbeats 4000000 in
theorem ok_X7_castMissing_154 {E : Ev} {X : Xt} {l0 : Launch} {K : Int32 → Hp → Prop} (hC : Cx E X l0 RX7 cX7_castMissing 7 rm_X7_castMissing) (hQ : CQ E X "castMissing" (some .int) rm_X7_castMissing (KI K)) : ∀ (n : Nat) (a0 : Nat) (a2 : Int32) (a3 : Int32) (a6 : Int32) (h : Hp), V_X7_castMissing_154 K n a0 a2 a3 a6 h → WW E X h 0 0 154 [some (rv a0), none, some (.int a2), some (.int a3), none, none, some (.int a6)] [] := by
  intro n
  induction n with
  | zero => intro a0 a2 a3 a6 h hV; exact hV.elim
  | succ n ih =>
    intro a0 a2 a3 a6 h hV
    unfold V_X7_castMissing_154 at hV
    refine r_iload hC dX7_castMissing_154 rfl ?_
    refine r_bipush (v := 29) hC dX7_castMissing_156 (by decide) ?_
    refine r_icmp_ge (tgt := 180) hC dX7_castMissing_158 (by decide) (fun k9 => ?_) (fun k9 => ?_)
    · replace hV := hV.1 k9
      refine r_iload_n hC dX7_castMissing_180 rfl ?_
      exact r_iret hC hQ dX7_castMissing_181 (Nat.le_of_ble_eq_true rfl) (Nat.le_of_ble_eq_true rfl) ⟨_, rfl, hV⟩
    · replace hV := hV.2 k9
      refine r_aload_n hC dX7_castMissing_161 rfl ?_
      refine r_iload_n hC dX7_castMissing_162 rfl ?_
      refine r_iload hC dX7_castMissing_163 rfl ?_
      refine r_aload_n hC dX7_castMissing_165 rfl ?_
      refine r_iload hC dX7_castMissing_166 rfl ?_
      obtain ⟨k9, hV⟩ := hV
      refine r_callV (ci := 7) (As := [.int a6]) hC dX7_castMissing_168 rfl cf_X7_lacks ml_7_135 im_X7_lacks sl_X7_lacks lq_7 rfl rfl k9 rfl ⟨Nat.le_of_ble_eq_true rfl, Nat.le_of_ble_eq_true rfl, Nat.le_of_ble_eq_true rfl, Nat.le_of_ble_eq_true rfl⟩ (csI (csI (csR cs0))) (Nat.le_of_ble_eq_true rfl) (con_X7_lacks a0 a6 h _ hV) rfl (kI (k := 0) (n := 0) (fun r1 h1 hV => ?_))
      obtain ⟨k9, hV⟩ := hV
      refine r_callV (ci := 7) (As := [.int a3, .int a6, .int r1]) hC dX7_castMissing_171 rfl cf_X7_casts ml_7_82 im_X7_casts sl_X7_casts lq_7 rfl rfl k9 rfl ⟨Nat.le_of_ble_eq_true rfl, Nat.le_of_ble_eq_true rfl, Nat.le_of_ble_eq_true rfl, Nat.le_of_ble_eq_true rfl⟩ cs0 (Nat.le_of_ble_eq_true rfl) (con_X7_casts a0 a3 a6 r1 h1 _ hV) rfl (kV (k := 0) (n := 0) (fun h2 hV => ?_))
      refine r_iinc (v := 1) (lo1 := [some (rv a0), none, some (.int a2), some (.int a3), none, none, some (.int (a6 + 1))]) hC dX7_castMissing_174 rfl (by decide) rfl ?_
      refine r_goto (tgt := 154) hC dX7_castMissing_177 (by decide) ?_
      exact ih a0 a2 a3 (a6 + 1) h2 hV
set_option maxRecDepth 100000 in
set_option maxHeartbeats 4000000 in
theorem ok_X7_castMissing_55 {E : Ev} {X : Xt} {l0 : Launch} {K : Int32 → Hp → Prop} (hC : Cx E X l0 RX7 cX7_castMissing 7 rm_X7_castMissing) (hQ : CQ E X "castMissing" (some .int) rm_X7_castMissing (KI K)) : ∀ (n : Nat) (a0 : Nat) (a2 : Int32) (a3 : Int32) (a4 : Int32) (a5 : Int32) (a6 : Int32) (h : Hp), V_X7_castMissing_55 K n a0 a2 a3 a4 a5 a6 h → WW E X h 0 0 55 [some (rv a0), none, some (.int a2), some (.int a3), some (.int a4), some (.int a5), some (.int a6)] [] := by
  intro n
  induction n with
  | zero => intro a0 a2 a3 a4 a5 a6 h hV; exact hV.elim
  | succ n ih =>
    intro a0 a2 a3 a4 a5 a6 h hV
    unfold V_X7_castMissing_55 at hV
    refine r_iload hC dX7_castMissing_55 rfl ?_
    refine r_bipush (v := 29) hC dX7_castMissing_57 (by decide) ?_
    refine r_icmp_ge (tgt := 125) hC dX7_castMissing_59 (by decide) (fun k9 => ?_) (fun k9 => ?_)
    · replace hV := hV.1 k9
      refine r_iload hC dX7_castMissing_125 rfl ?_
      refine r_if_eq (tgt := 133) hC dX7_castMissing_127 (by decide) (fun k9 => ?_) (fun k9 => ?_)
      · replace hV := hV.1 k9
        refine r_iload hC dX7_castMissing_133 rfl ?_
        refine r_aload_n hC dX7_castMissing_135 rfl ?_
        obtain ⟨k9, hV⟩ := hV
        refine r_getR hC dX7_castMissing_136 fl_7_7 rf_7_0 lq_7 k9 ?_
        refine r_iconst (v := 2) hC dX7_castMissing_139 (by decide) ?_
        obtain ⟨k9, k8, hV⟩ := hV
        refine r_iald (kd := 60) hC dX7_castMissing_140 (by decide) rfl k9 k8 ?_
        refine r_icmp_le (tgt := 147) hC dX7_castMissing_141 (by decide) (fun k9 => ?_) (fun k9 => ?_)
        · replace hV := hV.1 k9
          refine r_aload_n hC dX7_castMissing_147 rfl ?_
          obtain ⟨k9, hV⟩ := hV
          refine r_callV (ci := 7) (As := []) hC dX7_castMissing_148 rfl cf_X7_record ml_7_65 im_X7_record sl_X7_record lq_7 rfl rfl k9 rfl ⟨Nat.le_of_ble_eq_true rfl, Nat.le_of_ble_eq_true rfl, Nat.le_of_ble_eq_true rfl, Nat.le_of_ble_eq_true rfl⟩ cs0 (Nat.le_of_ble_eq_true rfl) (con_X7_record a0 h _ hV) rfl (kV (k := 0) (n := 0) (fun h1 hV => ?_))
          refine r_iconst (v := 0) hC dX7_castMissing_151 (by decide) ?_
          refine r_istore (lo1 := [some (rv a0), none, some (.int a2), some (.int a3), some (.int a4), some (.int a5), some (.int 0)]) hC dX7_castMissing_152 (Nat.le_of_ble_eq_true rfl) rfl ?_
          refine r_sub (lo1 := [some (rv a0), none, some (.int a2), some (.int a3), none, none, some (.int 0)]) ⟨Or.inr rfl, ⟨Or.inl rfl, ⟨Or.inr rfl, ⟨Or.inr rfl, ⟨Or.inl rfl, ⟨Or.inl rfl, ⟨Or.inr rfl, trivial⟩⟩⟩⟩⟩⟩⟩ ?_
          obtain ⟨n9, hV⟩ := hV
          exact ok_X7_castMissing_154 hC hQ n9 a0 a2 a3 0 h1 hV
        · replace hV := hV.2 k9
          refine r_bipush (v := (-4)) hC dX7_castMissing_144 (by decide) ?_
          exact r_iret hC hQ dX7_castMissing_146 (Nat.le_of_ble_eq_true rfl) (Nat.le_of_ble_eq_true rfl) ⟨_, rfl, hV⟩
      · replace hV := hV.2 k9
        refine r_bipush (v := (-3)) hC dX7_castMissing_130 (by decide) ?_
        exact r_iret hC hQ dX7_castMissing_132 (Nat.le_of_ble_eq_true rfl) (Nat.le_of_ble_eq_true rfl) ⟨_, rfl, hV⟩
    · replace hV := hV.2 k9
      refine r_iload hC dX7_castMissing_62 rfl ?_
      refine r_if_ne (tgt := 95) hC dX7_castMissing_64 (by decide) (fun k9 => ?_) (fun k9 => ?_)
      · replace hV := hV.1 k9
        refine r_sub (lo1 := [some (rv a0), none, some (.int a2), some (.int a3), some (.int a4), none, some (.int a6)]) ⟨Or.inr rfl, ⟨Or.inl rfl, ⟨Or.inr rfl, ⟨Or.inr rfl, ⟨Or.inr rfl, ⟨Or.inl rfl, ⟨Or.inr rfl, trivial⟩⟩⟩⟩⟩⟩⟩ ?_
        exact ok_X7_castMissing_95 hC hQ ih a0 a2 a3 a4 a6 h hV
      · replace hV := hV.2 k9
        refine r_aload_n hC dX7_castMissing_67 rfl ?_
        refine r_iload hC dX7_castMissing_68 rfl ?_
        obtain ⟨k9, hV⟩ := hV
        refine r_callV (ci := 7) (As := [.int a6]) hC dX7_castMissing_70 rfl cf_X7_lacks ml_7_135 im_X7_lacks sl_X7_lacks lq_7 rfl rfl k9 rfl ⟨Nat.le_of_ble_eq_true rfl, Nat.le_of_ble_eq_true rfl, Nat.le_of_ble_eq_true rfl, Nat.le_of_ble_eq_true rfl⟩ cs0 (Nat.le_of_ble_eq_true rfl) (con_X7_lacks a0 a6 h _ hV) rfl (kI (k := 0) (n := 0) (fun r1 h1 hV => ?_))
        refine r_if_le (tgt := 99) hC dX7_castMissing_73 (by decide) (fun k9 => ?_) (fun k9 => ?_)
        · replace hV := hV.1 k9
          refine r_sub (lo1 := [some (rv a0), none, some (.int a2), some (.int a3), some (.int a4), none, some (.int a6)]) ⟨Or.inr rfl, ⟨Or.inl rfl, ⟨Or.inr rfl, ⟨Or.inr rfl, ⟨Or.inr rfl, ⟨Or.inl rfl, ⟨Or.inr rfl, trivial⟩⟩⟩⟩⟩⟩⟩ ?_
          exact ok_X7_castMissing_99 hC hQ ih a0 a2 a3 a4 a6 h1 hV
        · replace hV := hV.2 k9
          refine r_aload_n hC dX7_castMissing_76 rfl ?_
          refine r_iload_n hC dX7_castMissing_77 rfl ?_
          refine r_iload hC dX7_castMissing_78 rfl ?_
          obtain ⟨k9, hV⟩ := hV
          refine r_callV (ci := 7) (As := [.int a3, .int a6]) hC dX7_castMissing_80 rfl cf_X7_has ml_7_79 im_X7_has sl_X7_has lq_7 rfl rfl k9 rfl ⟨Nat.le_of_ble_eq_true rfl, Nat.le_of_ble_eq_true rfl, Nat.le_of_ble_eq_true rfl, Nat.le_of_ble_eq_true rfl⟩ cs0 (Nat.le_of_ble_eq_true rfl) (con_X7_has a0 a3 a6 h1 _ hV) rfl (kI (k := 0) (n := 0) (fun r2 h2 hV => ?_))
          refine r_aload_n hC dX7_castMissing_83 rfl ?_
          refine r_iload hC dX7_castMissing_84 rfl ?_
          obtain ⟨k9, hV⟩ := hV
          refine r_callV (ci := 7) (As := [.int a6]) hC dX7_castMissing_86 rfl cf_X7_lacks ml_7_135 im_X7_lacks sl_X7_lacks lq_7 rfl rfl k9 rfl ⟨Nat.le_of_ble_eq_true rfl, Nat.le_of_ble_eq_true rfl, Nat.le_of_ble_eq_true rfl, Nat.le_of_ble_eq_true rfl⟩ (csI cs0) (Nat.le_of_ble_eq_true rfl) (con_X7_lacks a0 a6 h2 _ hV) rfl (kI (k := 0) (n := 0) (fun r3 h3 hV => ?_))
          refine r_iadd hC dX7_castMissing_89 ?_
          refine r_bipush (v := 99) hC dX7_castMissing_90 (by decide) ?_
          refine r_icmp_le (tgt := 99) hC dX7_castMissing_92 (by decide) (fun k9 => ?_) (fun k9 => ?_)
          · replace hV := hV.1 k9
            refine r_sub (lo1 := [some (rv a0), none, some (.int a2), some (.int a3), some (.int a4), none, some (.int a6)]) ⟨Or.inr rfl, ⟨Or.inl rfl, ⟨Or.inr rfl, ⟨Or.inr rfl, ⟨Or.inr rfl, ⟨Or.inl rfl, ⟨Or.inr rfl, trivial⟩⟩⟩⟩⟩⟩⟩ ?_
            exact ok_X7_castMissing_99 hC hQ ih a0 a2 a3 a4 a6 h3 hV
          · replace hV := hV.2 k9
            refine r_sub (lo1 := [some (rv a0), none, some (.int a2), some (.int a3), some (.int a4), none, some (.int a6)]) ⟨Or.inr rfl, ⟨Or.inl rfl, ⟨Or.inr rfl, ⟨Or.inr rfl, ⟨Or.inr rfl, ⟨Or.inl rfl, ⟨Or.inr rfl, trivial⟩⟩⟩⟩⟩⟩⟩ ?_
            exact ok_X7_castMissing_95 hC hQ ih a0 a2 a3 a4 a6 h3 hV
set_option maxRecDepth 100000 in
set_option maxHeartbeats 4000000 in
theorem ok_X7_castMissing_0 {E : Ev} {X : Xt} {l0 : Launch} {K : Int32 → Hp → Prop} (hC : Cx E X l0 RX7 cX7_castMissing 7 rm_X7_castMissing) (hQ : CQ E X "castMissing" (some .int) rm_X7_castMissing (KI K)) (a0 : Nat) (a1 : Int32) (h : Hp) (hV : V_X7_castMissing a0 a1 h K) : WW E X h 0 0 0 [some (rv a0), some (.int a1), none, none, none, none, none] [] := by
  unfold V_X7_castMissing at hV
  refine r_aload_n hC dX7_castMissing_0 rfl ?_
  refine r_iload_n hC dX7_castMissing_1 rfl ?_
  obtain ⟨k9, hV⟩ := hV
  refine r_callV (ci := 7) (As := [.int a1]) hC dX7_castMissing_2 rfl cf_X7_noJob ml_7_144 im_X7_noJob sl_X7_noJob lq_7 rfl rfl k9 rfl ⟨Nat.le_of_ble_eq_true rfl, Nat.le_of_ble_eq_true rfl, Nat.le_of_ble_eq_true rfl, Nat.le_of_ble_eq_true rfl⟩ cs0 (Nat.le_of_ble_eq_true rfl) (con_X7_noJob a0 a1 h _ hV) rfl (kI (k := 0) (n := 0) (fun r1 h1 hV => ?_))
  refine r_if_eq (tgt := 10) hC dX7_castMissing_5 (by decide) (fun k9 => ?_) (fun k9 => ?_)
  · replace hV := hV.1 k9
    refine r_aload_n hC dX7_castMissing_10 rfl ?_
    refine r_iload_n hC dX7_castMissing_11 rfl ?_
    refine r_iconst (v := 3) hC dX7_castMissing_12 (by decide) ?_
    obtain ⟨k9, hV⟩ := hV
    refine r_callV (ci := 7) (As := [.int a1, .int 3]) hC dX7_castMissing_13 rfl cf_X7_ofJob ml_7_60 im_X7_ofJob sl_X7_ofJob lq_7 rfl rfl k9 rfl ⟨Nat.le_of_ble_eq_true rfl, Nat.le_of_ble_eq_true rfl, Nat.le_of_ble_eq_true rfl, Nat.le_of_ble_eq_true rfl⟩ cs0 (Nat.le_of_ble_eq_true rfl) (con_X7_ofJob a0 a1 3 h1 _ hV) rfl (kI (k := 0) (n := 0) (fun r2 h2 hV => ?_))
    refine r_if_eq (tgt := 22) hC dX7_castMissing_16 (by decide) (fun k9 => ?_) (fun k9 => ?_)
    · replace hV := hV.1 k9
      refine r_aload_n hC dX7_castMissing_22 rfl ?_
      refine r_iload_n hC dX7_castMissing_23 rfl ?_
      obtain ⟨k9, hV⟩ := hV
      refine r_callV (ci := 7) (As := [.int a1]) hC dX7_castMissing_24 rfl cf_X7_layNeeds ml_7_147 im_X7_layNeeds sl_X7_layNeeds lq_7 rfl rfl k9 rfl ⟨Nat.le_of_ble_eq_true rfl, Nat.le_of_ble_eq_true rfl, Nat.le_of_ble_eq_true rfl, Nat.le_of_ble_eq_true rfl⟩ cs0 (Nat.le_of_ble_eq_true rfl) (con_X7_layNeeds a0 a1 h2 _ hV) rfl (kV (k := 0) (n := 0) (fun h3 hV => ?_))
      refine r_aload_n hC dX7_castMissing_27 rfl ?_
      obtain ⟨k9, hV⟩ := hV
      refine r_callV (ci := 7) (As := []) hC dX7_castMissing_28 rfl cf_X7_allLacks ml_7_150 im_X7_allLacks sl_X7_allLacks lq_7 rfl rfl k9 rfl ⟨Nat.le_of_ble_eq_true rfl, Nat.le_of_ble_eq_true rfl, Nat.le_of_ble_eq_true rfl, Nat.le_of_ble_eq_true rfl⟩ cs0 (Nat.le_of_ble_eq_true rfl) (con_X7_allLacks a0 h3 _ hV) rfl (kI (k := 0) (n := 0) (fun r3 h4 hV => ?_))
      refine r_istore_n (lo1 := [some (rv a0), some (.int a1), some (.int r3), none, none, none, none]) hC dX7_castMissing_31 (Nat.le_of_ble_eq_true rfl) rfl ?_
      refine r_iload_n hC dX7_castMissing_32 rfl ?_
      refine r_if_ne (tgt := 39) hC dX7_castMissing_33 (by decide) (fun k9 => ?_) (fun k9 => ?_)
      · replace hV := hV.1 k9
        refine r_aload_n hC dX7_castMissing_39 rfl ?_
        refine r_iload_n hC dX7_castMissing_40 rfl ?_
        refine r_iconst (v := 0) hC dX7_castMissing_41 (by decide) ?_
        obtain ⟨k9, hV⟩ := hV
        refine r_callV (ci := 7) (As := [.int a1, .int 0]) hC dX7_castMissing_42 rfl cf_X7_ofJob ml_7_60 im_X7_ofJob sl_X7_ofJob lq_7 rfl rfl k9 rfl ⟨Nat.le_of_ble_eq_true rfl, Nat.le_of_ble_eq_true rfl, Nat.le_of_ble_eq_true rfl, Nat.le_of_ble_eq_true rfl⟩ cs0 (Nat.le_of_ble_eq_true rfl) (con_X7_ofJob a0 a1 0 h4 _ hV) rfl (kI (k := 0) (n := 0) (fun r4 h5 hV => ?_))
        refine r_istore_n (lo1 := [some (rv a0), some (.int a1), some (.int r3), some (.int r4), none, none, none]) hC dX7_castMissing_45 (Nat.le_of_ble_eq_true rfl) rfl ?_
        refine r_iconst (v := 0) hC dX7_castMissing_46 (by decide) ?_
        refine r_istore (lo1 := [some (rv a0), some (.int a1), some (.int r3), some (.int r4), some (.int 0), none, none]) hC dX7_castMissing_47 (Nat.le_of_ble_eq_true rfl) rfl ?_
        refine r_iconst (v := 0) hC dX7_castMissing_49 (by decide) ?_
        refine r_istore (lo1 := [some (rv a0), some (.int a1), some (.int r3), some (.int r4), some (.int 0), some (.int 0), none]) hC dX7_castMissing_50 (Nat.le_of_ble_eq_true rfl) rfl ?_
        refine r_iconst (v := 0) hC dX7_castMissing_52 (by decide) ?_
        refine r_istore (lo1 := [some (rv a0), some (.int a1), some (.int r3), some (.int r4), some (.int 0), some (.int 0), some (.int 0)]) hC dX7_castMissing_53 (Nat.le_of_ble_eq_true rfl) rfl ?_
        refine r_sub (lo1 := [some (rv a0), none, some (.int r3), some (.int r4), some (.int 0), some (.int 0), some (.int 0)]) ⟨Or.inr rfl, ⟨Or.inl rfl, ⟨Or.inr rfl, ⟨Or.inr rfl, ⟨Or.inr rfl, ⟨Or.inr rfl, ⟨Or.inr rfl, trivial⟩⟩⟩⟩⟩⟩⟩ ?_
        obtain ⟨n9, hV⟩ := hV
        exact ok_X7_castMissing_55 hC hQ n9 a0 r3 r4 0 0 0 h5 hV
      · replace hV := hV.2 k9
        refine r_bipush (v := (-5)) hC dX7_castMissing_36 (by decide) ?_
        exact r_iret hC hQ dX7_castMissing_38 (Nat.le_of_ble_eq_true rfl) (Nat.le_of_ble_eq_true rfl) ⟨_, rfl, hV⟩
    · replace hV := hV.2 k9
      refine r_bipush (v := (-4)) hC dX7_castMissing_19 (by decide) ?_
      exact r_iret hC hQ dX7_castMissing_21 (Nat.le_of_ble_eq_true rfl) (Nat.le_of_ble_eq_true rfl) ⟨_, rfl, hV⟩
  · replace hV := hV.2 k9
    refine r_iconst (v := (-1)) hC dX7_castMissing_8 (by decide) ?_
    exact r_iret hC hQ dX7_castMissing_9 (Nat.le_of_ble_eq_true rfl) (Nat.le_of_ble_eq_true rfl) ⟨_, rfl, hV⟩
set_option maxRecDepth 100000 in
set_option maxHeartbeats 4000000 in
theorem con_X7_castMissing {E : Ev} {l0 : Launch} (a0 : Nat) (a1 : Int32) (h : Hp) (K : Int32 → Hp → Prop) (hV : V_X7_castMissing a0 a1 h K) : Con E l0 yX7_castMissing cX7_castMissing 7 (some .int) rm_X7_castMissing [rv a0, .int a1] h (KI K) := by
  refine Con.of (by decide +kernel) (cat_R (cat_I cat_nil)) (Nat.le_of_ble_eq_true rfl) (fun X hC hQ => ?_)
  refine r_sub (lo1 := [some (rv a0), some (.int a1), none, none, none, none, none]) (show lsub [some (rv a0), some (.int a1), none, none, none, none, none] _ from ⟨Or.inr rfl, ⟨Or.inr rfl, ⟨Or.inr rfl, ⟨Or.inr rfl, ⟨Or.inr rfl, ⟨Or.inr rfl, ⟨Or.inr rfl, trivial⟩⟩⟩⟩⟩⟩⟩) ?_
  exact ok_X7_castMissing_0 hC hQ a0 a1 h hV
theorem dX7_clearText_0 : decode cX7_clearText 0 = .ok (.aload_n 0, 1) := by decide +kernel
theorem dX7_clearText_1 : decode cX7_clearText 1 = .ok (.getfield 93, 3) := by decide +kernel
theorem dX7_clearText_4 : decode cX7_clearText 4 = .ok (.istore_n 1, 1) := by decide +kernel
theorem dX7_clearText_5 : decode cX7_clearText 5 = .ok (.aload_n 0, 1) := by decide +kernel
theorem dX7_clearText_6 : decode cX7_clearText 6 = .ok (.iconst 0, 1) := by decide +kernel
theorem dX7_clearText_7 : decode cX7_clearText 7 = .ok (.putfield 93, 3) := by decide +kernel
theorem dX7_clearText_10 : decode cX7_clearText 10 = .ok (.iload_n 1, 1) := by decide +kernel
theorem dX7_clearText_11 : decode cX7_clearText 11 = .ok (.ireturn, 1) := by decide +kernel
def rm_X7_clearText : Room := { frames := 0, cells := 0, slots := 0, locals := 0 }
set_option maxRecDepth 100000 in
set_option maxHeartbeats 4000000 in
theorem ok_X7_clearText_0 {E : Ev} {X : Xt} {l0 : Launch} {K : Int32 → Hp → Prop} (hC : Cx E X l0 RX7 cX7_clearText 2 rm_X7_clearText) (hQ : CQ E X "clearText" (some .int) rm_X7_clearText (KI K)) (a0 : Nat) (h : Hp) (hV : V_X7_clearText a0 h K) : WW E X h 0 0 0 [some (rv a0), none] [] := by
  unfold V_X7_clearText at hV
  refine r_aload_n hC dX7_clearText_0 rfl ?_
  obtain ⟨k9, hV⟩ := hV
  refine r_getI hC dX7_clearText_1 fl_7_93 rf_7_5 lq_7 k9 ?_
  refine r_istore_n (lo1 := [some (rv a0), some (.int (hI h a0 5))]) hC dX7_clearText_4 (Nat.le_of_ble_eq_true rfl) rfl ?_
  refine r_aload_n hC dX7_clearText_5 rfl ?_
  refine r_iconst (v := 0) hC dX7_clearText_6 (by decide) ?_
  obtain ⟨k9, hV⟩ := hV
  refine r_putI hC dX7_clearText_7 fl_7_93 ft_7 rfl rf_7_5 ty_7_5 lq_7 k9 (nmH (fun h1 k9 => ?_))
  replace hV := hV h1 k9
  refine r_iload_n hC dX7_clearText_10 rfl ?_
  exact r_iret hC hQ dX7_clearText_11 (Nat.le_of_ble_eq_true rfl) (Nat.le_of_ble_eq_true rfl) ⟨_, rfl, hV⟩
set_option maxRecDepth 100000 in
set_option maxHeartbeats 4000000 in
theorem con_X7_clearText {E : Ev} {l0 : Launch} (a0 : Nat) (h : Hp) (K : Int32 → Hp → Prop) (hV : V_X7_clearText a0 h K) : Con E l0 yX7_clearText cX7_clearText 2 (some .int) rm_X7_clearText [rv a0] h (KI K) := by
  refine Con.of (by decide +kernel) (cat_R cat_nil) (Nat.le_of_ble_eq_true rfl) (fun X hC hQ => ?_)
  refine r_sub (lo1 := [some (rv a0), none]) (show lsub [some (rv a0), none] _ from ⟨Or.inr rfl, ⟨Or.inr rfl, trivial⟩⟩) ?_
  exact ok_X7_clearText_0 hC hQ a0 h hV
theorem dX7_formeMetal_0 : decode cX7_formeMetal 0 = .ok (.iconst 0, 1) := by decide +kernel
theorem dX7_formeMetal_1 : decode cX7_formeMetal 1 = .ok (.istore_n 1, 1) := by decide +kernel
theorem dX7_formeMetal_2 : decode cX7_formeMetal 2 = .ok (.iconst 0, 1) := by decide +kernel
theorem dX7_formeMetal_3 : decode cX7_formeMetal 3 = .ok (.istore_n 2, 1) := by decide +kernel
theorem dX7_formeMetal_4 : decode cX7_formeMetal 4 = .ok (.iload_n 2, 1) := by decide +kernel
theorem dX7_formeMetal_5 : decode cX7_formeMetal 5 = .ok (.aload_n 0, 1) := by decide +kernel
theorem dX7_formeMetal_6 : decode cX7_formeMetal 6 = .ok (.getfield 7, 3) := by decide +kernel
theorem dX7_formeMetal_9 : decode cX7_formeMetal 9 = .ok (.iconst 1, 1) := by decide +kernel
theorem dX7_formeMetal_10 : decode cX7_formeMetal 10 = .ok (.iaload, 1) := by decide +kernel
theorem dX7_formeMetal_11 : decode cX7_formeMetal 11 = .ok (.if_icmp .ge 60, 3) := by decide +kernel
theorem dX7_formeMetal_14 : decode cX7_formeMetal 14 = .ok (.iconst 0, 1) := by decide +kernel
theorem dX7_formeMetal_15 : decode cX7_formeMetal 15 = .ok (.istore_n 3, 1) := by decide +kernel
theorem dX7_formeMetal_16 : decode cX7_formeMetal 16 = .ok (.iload_n 3, 1) := by decide +kernel
theorem dX7_formeMetal_17 : decode cX7_formeMetal 17 = .ok (.aload_n 0, 1) := by decide +kernel
theorem dX7_formeMetal_18 : decode cX7_formeMetal 18 = .ok (.getfield 7, 3) := by decide +kernel
theorem dX7_formeMetal_21 : decode cX7_formeMetal 21 = .ok (.iconst 0, 1) := by decide +kernel
theorem dX7_formeMetal_22 : decode cX7_formeMetal 22 = .ok (.iaload, 1) := by decide +kernel
theorem dX7_formeMetal_23 : decode cX7_formeMetal 23 = .ok (.if_icmp .ge 42, 3) := by decide +kernel
theorem dX7_formeMetal_26 : decode cX7_formeMetal 26 = .ok (.iconst 0, 1) := by decide +kernel
theorem dX7_formeMetal_27 : decode cX7_formeMetal 27 = .ok (.istore 4, 2) := by decide +kernel
theorem dX7_formeMetal_29 : decode cX7_formeMetal 29 = .ok (.iload 4, 2) := by decide +kernel
theorem dX7_formeMetal_31 : decode cX7_formeMetal 31 = .ok (.bipush 29, 2) := by decide +kernel
theorem dX7_formeMetal_33 : decode cX7_formeMetal 33 = .ok (.if_icmp .ge 26, 3) := by decide +kernel
theorem dX7_formeMetal_36 : decode cX7_formeMetal 36 = .ok (.iload_n 1, 1) := by decide +kernel
theorem dX7_formeMetal_37 : decode cX7_formeMetal 37 = .ok (.aload_n 0, 1) := by decide +kernel
theorem dX7_formeMetal_38 : decode cX7_formeMetal 38 = .ok (.iload_n 2, 1) := by decide +kernel
theorem dX7_formeMetal_39 : decode cX7_formeMetal 39 = .ok (.iload_n 3, 1) := by decide +kernel
theorem dX7_formeMetal_40 : decode cX7_formeMetal 40 = .ok (.iload 4, 2) := by decide +kernel
theorem dX7_formeMetal_42 : decode cX7_formeMetal 42 = .ok (.invokevirtual 128, 3) := by decide +kernel
theorem dX7_formeMetal_45 : decode cX7_formeMetal 45 = .ok (.iload 4, 2) := by decide +kernel
theorem dX7_formeMetal_47 : decode cX7_formeMetal 47 = .ok (.invokestatic 68, 3) := by decide +kernel
theorem dX7_formeMetal_50 : decode cX7_formeMetal 50 = .ok (.imul, 1) := by decide +kernel
theorem dX7_formeMetal_51 : decode cX7_formeMetal 51 = .ok (.iadd, 1) := by decide +kernel
theorem dX7_formeMetal_52 : decode cX7_formeMetal 52 = .ok (.istore_n 1, 1) := by decide +kernel
theorem dX7_formeMetal_53 : decode cX7_formeMetal 53 = .ok (.iinc 4 1, 3) := by decide +kernel
theorem dX7_formeMetal_56 : decode cX7_formeMetal 56 = .ok (.goto (-27), 3) := by decide +kernel
theorem dX7_formeMetal_59 : decode cX7_formeMetal 59 = .ok (.iinc 3 1, 3) := by decide +kernel
theorem dX7_formeMetal_62 : decode cX7_formeMetal 62 = .ok (.goto (-46), 3) := by decide +kernel
theorem dX7_formeMetal_65 : decode cX7_formeMetal 65 = .ok (.iinc 2 1, 3) := by decide +kernel
theorem dX7_formeMetal_68 : decode cX7_formeMetal 68 = .ok (.goto (-64), 3) := by decide +kernel
theorem dX7_formeMetal_71 : decode cX7_formeMetal 71 = .ok (.iload_n 1, 1) := by decide +kernel
theorem dX7_formeMetal_72 : decode cX7_formeMetal 72 = .ok (.ireturn, 1) := by decide +kernel
def rm_X7_formeMetal : Room := { frames := 2, cells := 0, slots := 0, locals := 45 }
set_option maxRecDepth 100000 in
set_option maxHeartbeats 4000000 in
theorem ok_X7_formeMetal_29 {E : Ev} {X : Xt} {l0 : Launch} {K : Int32 → Hp → Prop} {C4 : Nat → Int32 → Int32 → Hp → Prop} {C16 : Nat → Int32 → Int32 → Int32 → Hp → Prop} (hC : Cx E X l0 RX7 cX7_formeMetal 5 rm_X7_formeMetal) (hQ : CQ E X "formeMetal" (some .int) rm_X7_formeMetal (KI K)) (hC4 : ∀ (a0 : Nat) (a1 : Int32) (a2 : Int32) (h : Hp), C4 a0 a1 a2 h → WW E X h 0 0 4 [some (rv a0), some (.int a1), some (.int a2), none, none] []) (hC16 : ∀ (a0 : Nat) (a1 : Int32) (a2 : Int32) (a3 : Int32) (h : Hp), C16 a0 a1 a2 a3 h → WW E X h 0 0 16 [some (rv a0), some (.int a1), some (.int a2), some (.int a3), none] []) : ∀ (n : Nat) (a0 : Nat) (a1 : Int32) (a2 : Int32) (a3 : Int32) (a4 : Int32) (h : Hp), V_X7_formeMetal_29 K C4 C16 n a0 a1 a2 a3 a4 h → WW E X h 0 0 29 [some (rv a0), some (.int a1), some (.int a2), some (.int a3), some (.int a4)] [] := by
  intro n
  induction n with
  | zero => intro a0 a1 a2 a3 a4 h hV; exact hV.elim
  | succ n ih =>
    intro a0 a1 a2 a3 a4 h hV
    unfold V_X7_formeMetal_29 at hV
    refine r_iload hC dX7_formeMetal_29 rfl ?_
    refine r_bipush (v := 29) hC dX7_formeMetal_31 (by decide) ?_
    refine r_icmp_ge (tgt := 59) hC dX7_formeMetal_33 (by decide) (fun k9 => ?_) (fun k9 => ?_)
    · replace hV := hV.1 k9
      refine r_iinc (v := 1) (lo1 := [some (rv a0), some (.int a1), some (.int a2), some (.int (a3 + 1)), some (.int a4)]) hC dX7_formeMetal_59 rfl (by decide) rfl ?_
      refine r_goto (tgt := 16) hC dX7_formeMetal_62 (by decide) ?_
      refine r_sub (lo1 := [some (rv a0), some (.int a1), some (.int a2), some (.int (a3 + 1)), none]) ⟨Or.inr rfl, ⟨Or.inr rfl, ⟨Or.inr rfl, ⟨Or.inr rfl, ⟨Or.inl rfl, trivial⟩⟩⟩⟩⟩ ?_
      exact hC16 a0 a1 a2 (a3 + 1) h hV
    · replace hV := hV.2 k9
      refine r_iload_n hC dX7_formeMetal_36 rfl ?_
      refine r_aload_n hC dX7_formeMetal_37 rfl ?_
      refine r_iload_n hC dX7_formeMetal_38 rfl ?_
      refine r_iload_n hC dX7_formeMetal_39 rfl ?_
      refine r_iload hC dX7_formeMetal_40 rfl ?_
      obtain ⟨k9, hV⟩ := hV
      refine r_callV (ci := 7) (As := [.int a2, .int a3, .int a4]) hC dX7_formeMetal_42 rfl cf_X7_inForme ml_7_128 im_X7_inForme sl_X7_inForme lq_7 rfl rfl k9 rfl ⟨Nat.le_of_ble_eq_true rfl, Nat.le_of_ble_eq_true rfl, Nat.le_of_ble_eq_true rfl, Nat.le_of_ble_eq_true rfl⟩ (csI cs0) (Nat.le_of_ble_eq_true rfl) (con_X7_inForme a0 a2 a3 a4 h _ hV) rfl (kI (k := 0) (n := 0) (fun r1 h1 hV => ?_))
      refine r_iload hC dX7_formeMetal_45 rfl ?_
      refine r_callS (As := [.int a4]) hC dX7_formeMetal_47 rfl cf_X7_width ml_7_68 st_X7_width rfl ⟨Nat.le_of_ble_eq_true rfl, Nat.le_of_ble_eq_true rfl, Nat.le_of_ble_eq_true rfl, Nat.le_of_ble_eq_true rfl⟩ (csI (csI cs0)) (Nat.le_of_ble_eq_true rfl) (con_X7_width a4 h1 _ hV) rfl (kI (k := 0) (n := 0) (fun r2 h2 hV => ?_))
      refine r_imul hC dX7_formeMetal_50 ?_
      refine r_iadd hC dX7_formeMetal_51 ?_
      refine r_istore_n (lo1 := [some (rv a0), some (.int (a1 + (r1 * r2))), some (.int a2), some (.int a3), some (.int a4)]) hC dX7_formeMetal_52 (Nat.le_of_ble_eq_true rfl) rfl ?_
      refine r_iinc (v := 1) (lo1 := [some (rv a0), some (.int (a1 + (r1 * r2))), some (.int a2), some (.int a3), some (.int (a4 + 1))]) hC dX7_formeMetal_53 rfl (by decide) rfl ?_
      refine r_goto (tgt := 29) hC dX7_formeMetal_56 (by decide) ?_
      exact ih a0 (a1 + (r1 * r2)) a2 a3 (a4 + 1) h2 hV
set_option maxRecDepth 100000 in
set_option maxHeartbeats 4000000 in
theorem ok_X7_formeMetal_16 {E : Ev} {X : Xt} {l0 : Launch} {K : Int32 → Hp → Prop} {C4 : Nat → Int32 → Int32 → Hp → Prop} (hC : Cx E X l0 RX7 cX7_formeMetal 5 rm_X7_formeMetal) (hQ : CQ E X "formeMetal" (some .int) rm_X7_formeMetal (KI K)) (hC4 : ∀ (a0 : Nat) (a1 : Int32) (a2 : Int32) (h : Hp), C4 a0 a1 a2 h → WW E X h 0 0 4 [some (rv a0), some (.int a1), some (.int a2), none, none] []) : ∀ (n : Nat) (a0 : Nat) (a1 : Int32) (a2 : Int32) (a3 : Int32) (h : Hp), V_X7_formeMetal_16 K C4 n a0 a1 a2 a3 h → WW E X h 0 0 16 [some (rv a0), some (.int a1), some (.int a2), some (.int a3), none] [] := by
  intro n
  induction n with
  | zero => intro a0 a1 a2 a3 h hV; exact hV.elim
  | succ n ih =>
    intro a0 a1 a2 a3 h hV
    unfold V_X7_formeMetal_16 at hV
    refine r_iload_n hC dX7_formeMetal_16 rfl ?_
    refine r_aload_n hC dX7_formeMetal_17 rfl ?_
    obtain ⟨k9, hV⟩ := hV
    refine r_getR hC dX7_formeMetal_18 fl_7_7 rf_7_0 lq_7 k9 ?_
    refine r_iconst (v := 0) hC dX7_formeMetal_21 (by decide) ?_
    obtain ⟨k9, k8, hV⟩ := hV
    refine r_iald (kd := 60) hC dX7_formeMetal_22 (by decide) rfl k9 k8 ?_
    refine r_icmp_ge (tgt := 65) hC dX7_formeMetal_23 (by decide) (fun k9 => ?_) (fun k9 => ?_)
    · replace hV := hV.1 k9
      refine r_iinc (v := 1) (lo1 := [some (rv a0), some (.int a1), some (.int (a2 + 1)), some (.int a3), none]) hC dX7_formeMetal_65 rfl (by decide) rfl ?_
      refine r_goto (tgt := 4) hC dX7_formeMetal_68 (by decide) ?_
      refine r_sub (lo1 := [some (rv a0), some (.int a1), some (.int (a2 + 1)), none, none]) ⟨Or.inr rfl, ⟨Or.inr rfl, ⟨Or.inr rfl, ⟨Or.inl rfl, ⟨Or.inl rfl, trivial⟩⟩⟩⟩⟩ ?_
      exact hC4 a0 a1 (a2 + 1) h hV
    · replace hV := hV.2 k9
      refine r_iconst (v := 0) hC dX7_formeMetal_26 (by decide) ?_
      refine r_istore (lo1 := [some (rv a0), some (.int a1), some (.int a2), some (.int a3), some (.int 0)]) hC dX7_formeMetal_27 (Nat.le_of_ble_eq_true rfl) rfl ?_
      obtain ⟨n9, hV⟩ := hV
      exact ok_X7_formeMetal_29 hC hQ hC4 ih n9 a0 a1 a2 a3 0 h hV
set_option maxRecDepth 100000 in
set_option maxHeartbeats 4000000 in
theorem ok_X7_formeMetal_4 {E : Ev} {X : Xt} {l0 : Launch} {K : Int32 → Hp → Prop} (hC : Cx E X l0 RX7 cX7_formeMetal 5 rm_X7_formeMetal) (hQ : CQ E X "formeMetal" (some .int) rm_X7_formeMetal (KI K)) : ∀ (n : Nat) (a0 : Nat) (a1 : Int32) (a2 : Int32) (h : Hp), V_X7_formeMetal_4 K n a0 a1 a2 h → WW E X h 0 0 4 [some (rv a0), some (.int a1), some (.int a2), none, none] [] := by
  intro n
  induction n with
  | zero => intro a0 a1 a2 h hV; exact hV.elim
  | succ n ih =>
    intro a0 a1 a2 h hV
    unfold V_X7_formeMetal_4 at hV
    refine r_iload_n hC dX7_formeMetal_4 rfl ?_
    refine r_aload_n hC dX7_formeMetal_5 rfl ?_
    obtain ⟨k9, hV⟩ := hV
    refine r_getR hC dX7_formeMetal_6 fl_7_7 rf_7_0 lq_7 k9 ?_
    refine r_iconst (v := 1) hC dX7_formeMetal_9 (by decide) ?_
    obtain ⟨k9, k8, hV⟩ := hV
    refine r_iald (kd := 60) hC dX7_formeMetal_10 (by decide) rfl k9 k8 ?_
    refine r_icmp_ge (tgt := 71) hC dX7_formeMetal_11 (by decide) (fun k9 => ?_) (fun k9 => ?_)
    · replace hV := hV.1 k9
      refine r_iload_n hC dX7_formeMetal_71 rfl ?_
      exact r_iret hC hQ dX7_formeMetal_72 (Nat.le_of_ble_eq_true rfl) (Nat.le_of_ble_eq_true rfl) ⟨_, rfl, hV⟩
    · replace hV := hV.2 k9
      refine r_iconst (v := 0) hC dX7_formeMetal_14 (by decide) ?_
      refine r_istore_n (lo1 := [some (rv a0), some (.int a1), some (.int a2), some (.int 0), none]) hC dX7_formeMetal_15 (Nat.le_of_ble_eq_true rfl) rfl ?_
      obtain ⟨n9, hV⟩ := hV
      exact ok_X7_formeMetal_16 hC hQ ih n9 a0 a1 a2 0 h hV
set_option maxRecDepth 100000 in
set_option maxHeartbeats 4000000 in
theorem ok_X7_formeMetal_0 {E : Ev} {X : Xt} {l0 : Launch} {K : Int32 → Hp → Prop} (hC : Cx E X l0 RX7 cX7_formeMetal 5 rm_X7_formeMetal) (hQ : CQ E X "formeMetal" (some .int) rm_X7_formeMetal (KI K)) (a0 : Nat) (h : Hp) (hV : V_X7_formeMetal a0 h K) : WW E X h 0 0 0 [some (rv a0), none, none, none, none] [] := by
  unfold V_X7_formeMetal at hV
  refine r_iconst (v := 0) hC dX7_formeMetal_0 (by decide) ?_
  refine r_istore_n (lo1 := [some (rv a0), some (.int 0), none, none, none]) hC dX7_formeMetal_1 (Nat.le_of_ble_eq_true rfl) rfl ?_
  refine r_iconst (v := 0) hC dX7_formeMetal_2 (by decide) ?_
  refine r_istore_n (lo1 := [some (rv a0), some (.int 0), some (.int 0), none, none]) hC dX7_formeMetal_3 (Nat.le_of_ble_eq_true rfl) rfl ?_
  obtain ⟨n9, hV⟩ := hV
  exact ok_X7_formeMetal_4 hC hQ n9 a0 0 0 h hV
set_option maxRecDepth 100000 in
set_option maxHeartbeats 4000000 in
theorem con_X7_formeMetal {E : Ev} {l0 : Launch} (a0 : Nat) (h : Hp) (K : Int32 → Hp → Prop) (hV : V_X7_formeMetal a0 h K) : Con E l0 yX7_formeMetal cX7_formeMetal 5 (some .int) rm_X7_formeMetal [rv a0] h (KI K) := by
  refine Con.of (by decide +kernel) (cat_R cat_nil) (Nat.le_of_ble_eq_true rfl) (fun X hC hQ => ?_)
  refine r_sub (lo1 := [some (rv a0), none, none, none, none]) (show lsub [some (rv a0), none, none, none, none] _ from ⟨Or.inr rfl, ⟨Or.inr rfl, ⟨Or.inr rfl, ⟨Or.inr rfl, ⟨Or.inr rfl, trivial⟩⟩⟩⟩⟩) ?_
  exact ok_X7_formeMetal_0 hC hQ a0 h hV
theorem dX7_inBox_0 : decode cX7_inBox 0 = .ok (.iconst 0, 1) := by decide +kernel
theorem dX7_inBox_1 : decode cX7_inBox 1 = .ok (.istore_n 1, 1) := by decide +kernel
theorem dX7_inBox_2 : decode cX7_inBox 2 = .ok (.iconst 0, 1) := by decide +kernel
theorem dX7_inBox_3 : decode cX7_inBox 3 = .ok (.istore_n 2, 1) := by decide +kernel
theorem dX7_inBox_4 : decode cX7_inBox 4 = .ok (.iload_n 2, 1) := by decide +kernel
theorem dX7_inBox_5 : decode cX7_inBox 5 = .ok (.bipush 29, 2) := by decide +kernel
theorem dX7_inBox_7 : decode cX7_inBox 7 = .ok (.if_icmp .ge 22, 3) := by decide +kernel
theorem dX7_inBox_10 : decode cX7_inBox 10 = .ok (.iload_n 1, 1) := by decide +kernel
theorem dX7_inBox_11 : decode cX7_inBox 11 = .ok (.aload_n 0, 1) := by decide +kernel
theorem dX7_inBox_12 : decode cX7_inBox 12 = .ok (.getfield 7, 3) := by decide +kernel
theorem dX7_inBox_15 : decode cX7_inBox 15 = .ok (.sipush 182, 3) := by decide +kernel
theorem dX7_inBox_18 : decode cX7_inBox 18 = .ok (.iload_n 2, 1) := by decide +kernel
theorem dX7_inBox_19 : decode cX7_inBox 19 = .ok (.iadd, 1) := by decide +kernel
theorem dX7_inBox_20 : decode cX7_inBox 20 = .ok (.iaload, 1) := by decide +kernel
theorem dX7_inBox_21 : decode cX7_inBox 21 = .ok (.iadd, 1) := by decide +kernel
theorem dX7_inBox_22 : decode cX7_inBox 22 = .ok (.istore_n 1, 1) := by decide +kernel
theorem dX7_inBox_23 : decode cX7_inBox 23 = .ok (.iinc 2 1, 3) := by decide +kernel
theorem dX7_inBox_26 : decode cX7_inBox 26 = .ok (.goto (-22), 3) := by decide +kernel
theorem dX7_inBox_29 : decode cX7_inBox 29 = .ok (.iload_n 1, 1) := by decide +kernel
theorem dX7_inBox_30 : decode cX7_inBox 30 = .ok (.ireturn, 1) := by decide +kernel
def rm_X7_inBox : Room := { frames := 0, cells := 0, slots := 0, locals := 0 }
set_option maxRecDepth 100000 in
set_option maxHeartbeats 4000000 in
theorem ok_X7_inBox_4 {E : Ev} {X : Xt} {l0 : Launch} {K : Int32 → Hp → Prop} (hC : Cx E X l0 RX7 cX7_inBox 3 rm_X7_inBox) (hQ : CQ E X "inBox" (some .int) rm_X7_inBox (KI K)) : ∀ (n : Nat) (a0 : Nat) (a1 : Int32) (a2 : Int32) (h : Hp), V_X7_inBox_4 K n a0 a1 a2 h → WW E X h 0 0 4 [some (rv a0), some (.int a1), some (.int a2)] [] := by
  intro n
  induction n with
  | zero => intro a0 a1 a2 h hV; exact hV.elim
  | succ n ih =>
    intro a0 a1 a2 h hV
    unfold V_X7_inBox_4 at hV
    refine r_iload_n hC dX7_inBox_4 rfl ?_
    refine r_bipush (v := 29) hC dX7_inBox_5 (by decide) ?_
    refine r_icmp_ge (tgt := 29) hC dX7_inBox_7 (by decide) (fun k9 => ?_) (fun k9 => ?_)
    · replace hV := hV.1 k9
      refine r_iload_n hC dX7_inBox_29 rfl ?_
      exact r_iret hC hQ dX7_inBox_30 (Nat.le_of_ble_eq_true rfl) (Nat.le_of_ble_eq_true rfl) ⟨_, rfl, hV⟩
    · replace hV := hV.2 k9
      refine r_iload_n hC dX7_inBox_10 rfl ?_
      refine r_aload_n hC dX7_inBox_11 rfl ?_
      obtain ⟨k9, hV⟩ := hV
      refine r_getR hC dX7_inBox_12 fl_7_7 rf_7_0 lq_7 k9 ?_
      refine r_sipush (v := 182) hC dX7_inBox_15 (by decide) ?_
      refine r_iload_n hC dX7_inBox_18 rfl ?_
      refine r_iadd hC dX7_inBox_19 ?_
      obtain ⟨k9, k8, hV⟩ := hV
      refine r_iald (kd := 60) hC dX7_inBox_20 (by decide) rfl k9 k8 ?_
      refine r_iadd hC dX7_inBox_21 ?_
      refine r_istore_n (lo1 := [some (rv a0), some (.int (a1 + (hI h (hR h a0 0) (ix (182 + a2))))), some (.int a2)]) hC dX7_inBox_22 (Nat.le_of_ble_eq_true rfl) rfl ?_
      refine r_iinc (v := 1) (lo1 := [some (rv a0), some (.int (a1 + (hI h (hR h a0 0) (ix (182 + a2))))), some (.int (a2 + 1))]) hC dX7_inBox_23 rfl (by decide) rfl ?_
      refine r_goto (tgt := 4) hC dX7_inBox_26 (by decide) ?_
      exact ih a0 (a1 + (hI h (hR h a0 0) (ix (182 + a2)))) (a2 + 1) h hV
set_option maxRecDepth 100000 in
set_option maxHeartbeats 4000000 in
theorem ok_X7_inBox_0 {E : Ev} {X : Xt} {l0 : Launch} {K : Int32 → Hp → Prop} (hC : Cx E X l0 RX7 cX7_inBox 3 rm_X7_inBox) (hQ : CQ E X "inBox" (some .int) rm_X7_inBox (KI K)) (a0 : Nat) (h : Hp) (hV : V_X7_inBox a0 h K) : WW E X h 0 0 0 [some (rv a0), none, none] [] := by
  unfold V_X7_inBox at hV
  refine r_iconst (v := 0) hC dX7_inBox_0 (by decide) ?_
  refine r_istore_n (lo1 := [some (rv a0), some (.int 0), none]) hC dX7_inBox_1 (Nat.le_of_ble_eq_true rfl) rfl ?_
  refine r_iconst (v := 0) hC dX7_inBox_2 (by decide) ?_
  refine r_istore_n (lo1 := [some (rv a0), some (.int 0), some (.int 0)]) hC dX7_inBox_3 (Nat.le_of_ble_eq_true rfl) rfl ?_
  obtain ⟨n9, hV⟩ := hV
  exact ok_X7_inBox_4 hC hQ n9 a0 0 0 h hV
set_option maxRecDepth 100000 in
set_option maxHeartbeats 4000000 in
theorem con_X7_inBox {E : Ev} {l0 : Launch} (a0 : Nat) (h : Hp) (K : Int32 → Hp → Prop) (hV : V_X7_inBox a0 h K) : Con E l0 yX7_inBox cX7_inBox 3 (some .int) rm_X7_inBox [rv a0] h (KI K) := by
  refine Con.of (by decide +kernel) (cat_R cat_nil) (Nat.le_of_ble_eq_true rfl) (fun X hC hQ => ?_)
  refine r_sub (lo1 := [some (rv a0), none, none]) (show lsub [some (rv a0), none, none] _ from ⟨Or.inr rfl, ⟨Or.inr rfl, ⟨Or.inr rfl, trivial⟩⟩⟩) ?_
  exact ok_X7_inBox_0 hC hQ a0 h hV
theorem dX7_lateDays_0 : decode cX7_lateDays 0 = .ok (.iconst 0, 1) := by decide +kernel
theorem dX7_lateDays_1 : decode cX7_lateDays 1 = .ok (.istore_n 1, 1) := by decide +kernel
theorem dX7_lateDays_2 : decode cX7_lateDays 2 = .ok (.iconst 0, 1) := by decide +kernel
theorem dX7_lateDays_3 : decode cX7_lateDays 3 = .ok (.istore_n 2, 1) := by decide +kernel
theorem dX7_lateDays_4 : decode cX7_lateDays 4 = .ok (.iload_n 2, 1) := by decide +kernel
theorem dX7_lateDays_5 : decode cX7_lateDays 5 = .ok (.aload_n 0, 1) := by decide +kernel
theorem dX7_lateDays_6 : decode cX7_lateDays 6 = .ok (.getfield 7, 3) := by decide +kernel
theorem dX7_lateDays_9 : decode cX7_lateDays 9 = .ok (.iconst 1, 1) := by decide +kernel
theorem dX7_lateDays_10 : decode cX7_lateDays 10 = .ok (.iaload, 1) := by decide +kernel
theorem dX7_lateDays_11 : decode cX7_lateDays 11 = .ok (.if_icmp .ge 31, 3) := by decide +kernel
theorem dX7_lateDays_14 : decode cX7_lateDays 14 = .ok (.iload_n 1, 1) := by decide +kernel
theorem dX7_lateDays_15 : decode cX7_lateDays 15 = .ok (.aload_n 0, 1) := by decide +kernel
theorem dX7_lateDays_16 : decode cX7_lateDays 16 = .ok (.iload_n 2, 1) := by decide +kernel
theorem dX7_lateDays_17 : decode cX7_lateDays 17 = .ok (.iconst 5, 1) := by decide +kernel
theorem dX7_lateDays_18 : decode cX7_lateDays 18 = .ok (.invokevirtual 60, 3) := by decide +kernel
theorem dX7_lateDays_21 : decode cX7_lateDays 21 = .ok (.ifCond .le 12, 3) := by decide +kernel
theorem dX7_lateDays_24 : decode cX7_lateDays 24 = .ok (.aload_n 0, 1) := by decide +kernel
theorem dX7_lateDays_25 : decode cX7_lateDays 25 = .ok (.iload_n 2, 1) := by decide +kernel
theorem dX7_lateDays_26 : decode cX7_lateDays 26 = .ok (.iconst 5, 1) := by decide +kernel
theorem dX7_lateDays_27 : decode cX7_lateDays 27 = .ok (.invokevirtual 60, 3) := by decide +kernel
theorem dX7_lateDays_30 : decode cX7_lateDays 30 = .ok (.goto 4, 3) := by decide +kernel
theorem dX7_lateDays_33 : decode cX7_lateDays 33 = .ok (.iconst 0, 1) := by decide +kernel
theorem dX7_lateDays_34 : decode cX7_lateDays 34 = .ok (.iadd, 1) := by decide +kernel
theorem dX7_lateDays_35 : decode cX7_lateDays 35 = .ok (.istore_n 1, 1) := by decide +kernel
theorem dX7_lateDays_36 : decode cX7_lateDays 36 = .ok (.iinc 2 1, 3) := by decide +kernel
theorem dX7_lateDays_39 : decode cX7_lateDays 39 = .ok (.goto (-35), 3) := by decide +kernel
theorem dX7_lateDays_42 : decode cX7_lateDays 42 = .ok (.iload_n 1, 1) := by decide +kernel
theorem dX7_lateDays_43 : decode cX7_lateDays 43 = .ok (.ireturn, 1) := by decide +kernel
def rm_X7_lateDays : Room := { frames := 1, cells := 0, slots := 0, locals := 22 }
set_option maxRecDepth 100000 in
set_option maxHeartbeats 4000000 in
theorem ok_X7_lateDays_34 {E : Ev} {X : Xt} {l0 : Launch} {K : Int32 → Hp → Prop} {C4 : Nat → Int32 → Int32 → Hp → Prop} (hC : Cx E X l0 RX7 cX7_lateDays 3 rm_X7_lateDays) (hQ : CQ E X "lateDays" (some .int) rm_X7_lateDays (KI K)) (hC4 : ∀ (a0 : Nat) (a1 : Int32) (a2 : Int32) (h : Hp), C4 a0 a1 a2 h → WW E X h 0 0 4 [some (rv a0), some (.int a1), some (.int a2)] []) (a0 : Nat) (a2 : Int32) (s0 : Int32) (s1 : Int32) (h : Hp) (hV : V_X7_lateDays_34 K C4 a0 a2 s0 s1 h) : WW E X h 0 0 34 [some (rv a0), none, some (.int a2)] [.int s1, .int s0] := by
  unfold V_X7_lateDays_34 at hV
  refine r_iadd hC dX7_lateDays_34 ?_
  refine r_istore_n (lo1 := [some (rv a0), some (.int (s0 + s1)), some (.int a2)]) hC dX7_lateDays_35 (Nat.le_of_ble_eq_true rfl) rfl ?_
  refine r_iinc (v := 1) (lo1 := [some (rv a0), some (.int (s0 + s1)), some (.int (a2 + 1))]) hC dX7_lateDays_36 rfl (by decide) rfl ?_
  refine r_goto (tgt := 4) hC dX7_lateDays_39 (by decide) ?_
  exact hC4 a0 (s0 + s1) (a2 + 1) h hV
set_option maxRecDepth 100000 in
set_option maxHeartbeats 4000000 in
theorem ok_X7_lateDays_4 {E : Ev} {X : Xt} {l0 : Launch} {K : Int32 → Hp → Prop} (hC : Cx E X l0 RX7 cX7_lateDays 3 rm_X7_lateDays) (hQ : CQ E X "lateDays" (some .int) rm_X7_lateDays (KI K)) : ∀ (n : Nat) (a0 : Nat) (a1 : Int32) (a2 : Int32) (h : Hp), V_X7_lateDays_4 K n a0 a1 a2 h → WW E X h 0 0 4 [some (rv a0), some (.int a1), some (.int a2)] [] := by
  intro n
  induction n with
  | zero => intro a0 a1 a2 h hV; exact hV.elim
  | succ n ih =>
    intro a0 a1 a2 h hV
    unfold V_X7_lateDays_4 at hV
    refine r_iload_n hC dX7_lateDays_4 rfl ?_
    refine r_aload_n hC dX7_lateDays_5 rfl ?_
    obtain ⟨k9, hV⟩ := hV
    refine r_getR hC dX7_lateDays_6 fl_7_7 rf_7_0 lq_7 k9 ?_
    refine r_iconst (v := 1) hC dX7_lateDays_9 (by decide) ?_
    obtain ⟨k9, k8, hV⟩ := hV
    refine r_iald (kd := 60) hC dX7_lateDays_10 (by decide) rfl k9 k8 ?_
    refine r_icmp_ge (tgt := 42) hC dX7_lateDays_11 (by decide) (fun k9 => ?_) (fun k9 => ?_)
    · replace hV := hV.1 k9
      refine r_iload_n hC dX7_lateDays_42 rfl ?_
      exact r_iret hC hQ dX7_lateDays_43 (Nat.le_of_ble_eq_true rfl) (Nat.le_of_ble_eq_true rfl) ⟨_, rfl, hV⟩
    · replace hV := hV.2 k9
      refine r_iload_n hC dX7_lateDays_14 rfl ?_
      refine r_aload_n hC dX7_lateDays_15 rfl ?_
      refine r_iload_n hC dX7_lateDays_16 rfl ?_
      refine r_iconst (v := 5) hC dX7_lateDays_17 (by decide) ?_
      obtain ⟨k9, hV⟩ := hV
      refine r_callV (ci := 7) (As := [.int a2, .int 5]) hC dX7_lateDays_18 rfl cf_X7_ofJob ml_7_60 im_X7_ofJob sl_X7_ofJob lq_7 rfl rfl k9 rfl ⟨Nat.le_of_ble_eq_true rfl, Nat.le_of_ble_eq_true rfl, Nat.le_of_ble_eq_true rfl, Nat.le_of_ble_eq_true rfl⟩ (csI cs0) (Nat.le_of_ble_eq_true rfl) (con_X7_ofJob a0 a2 5 h _ hV) rfl (kI (k := 0) (n := 0) (fun r1 h1 hV => ?_))
      refine r_if_le (tgt := 33) hC dX7_lateDays_21 (by decide) (fun k9 => ?_) (fun k9 => ?_)
      · replace hV := hV.1 k9
        refine r_iconst (v := 0) hC dX7_lateDays_33 (by decide) ?_
        refine r_sub (lo1 := [some (rv a0), none, some (.int a2)]) ⟨Or.inr rfl, ⟨Or.inl rfl, ⟨Or.inr rfl, trivial⟩⟩⟩ ?_
        exact ok_X7_lateDays_34 hC hQ ih a0 a2 a1 0 h1 hV
      · replace hV := hV.2 k9
        refine r_aload_n hC dX7_lateDays_24 rfl ?_
        refine r_iload_n hC dX7_lateDays_25 rfl ?_
        refine r_iconst (v := 5) hC dX7_lateDays_26 (by decide) ?_
        obtain ⟨k9, hV⟩ := hV
        refine r_callV (ci := 7) (As := [.int a2, .int 5]) hC dX7_lateDays_27 rfl cf_X7_ofJob ml_7_60 im_X7_ofJob sl_X7_ofJob lq_7 rfl rfl k9 rfl ⟨Nat.le_of_ble_eq_true rfl, Nat.le_of_ble_eq_true rfl, Nat.le_of_ble_eq_true rfl, Nat.le_of_ble_eq_true rfl⟩ (csI cs0) (Nat.le_of_ble_eq_true rfl) (con_X7_ofJob a0 a2 5 h1 _ hV) rfl (kI (k := 0) (n := 0) (fun r2 h2 hV => ?_))
        refine r_goto (tgt := 34) hC dX7_lateDays_30 (by decide) ?_
        refine r_sub (lo1 := [some (rv a0), none, some (.int a2)]) ⟨Or.inr rfl, ⟨Or.inl rfl, ⟨Or.inr rfl, trivial⟩⟩⟩ ?_
        exact ok_X7_lateDays_34 hC hQ ih a0 a2 a1 r2 h2 hV
set_option maxRecDepth 100000 in
set_option maxHeartbeats 4000000 in
theorem ok_X7_lateDays_0 {E : Ev} {X : Xt} {l0 : Launch} {K : Int32 → Hp → Prop} (hC : Cx E X l0 RX7 cX7_lateDays 3 rm_X7_lateDays) (hQ : CQ E X "lateDays" (some .int) rm_X7_lateDays (KI K)) (a0 : Nat) (h : Hp) (hV : V_X7_lateDays a0 h K) : WW E X h 0 0 0 [some (rv a0), none, none] [] := by
  unfold V_X7_lateDays at hV
  refine r_iconst (v := 0) hC dX7_lateDays_0 (by decide) ?_
  refine r_istore_n (lo1 := [some (rv a0), some (.int 0), none]) hC dX7_lateDays_1 (Nat.le_of_ble_eq_true rfl) rfl ?_
  refine r_iconst (v := 0) hC dX7_lateDays_2 (by decide) ?_
  refine r_istore_n (lo1 := [some (rv a0), some (.int 0), some (.int 0)]) hC dX7_lateDays_3 (Nat.le_of_ble_eq_true rfl) rfl ?_
  obtain ⟨n9, hV⟩ := hV
  exact ok_X7_lateDays_4 hC hQ n9 a0 0 0 h hV
set_option maxRecDepth 100000 in
set_option maxHeartbeats 4000000 in
theorem con_X7_lateDays {E : Ev} {l0 : Launch} (a0 : Nat) (h : Hp) (K : Int32 → Hp → Prop) (hV : V_X7_lateDays a0 h K) : Con E l0 yX7_lateDays cX7_lateDays 3 (some .int) rm_X7_lateDays [rv a0] h (KI K) := by
  refine Con.of (by decide +kernel) (cat_R cat_nil) (Nat.le_of_ble_eq_true rfl) (fun X hC hQ => ?_)
  refine r_sub (lo1 := [some (rv a0), none, none]) (show lsub [some (rv a0), none, none] _ from ⟨Or.inr rfl, ⟨Or.inr rfl, ⟨Or.inr rfl, trivial⟩⟩⟩) ?_
  exact ok_X7_lateDays_0 hC hQ a0 h hV
theorem dX7_isToDo_0 : decode cX7_isToDo 0 = .ok (.aload_n 0, 1) := by decide +kernel
theorem dX7_isToDo_1 : decode cX7_isToDo 1 = .ok (.iload_n 1, 1) := by decide +kernel
theorem dX7_isToDo_2 : decode cX7_isToDo 2 = .ok (.iconst 3, 1) := by decide +kernel
theorem dX7_isToDo_3 : decode cX7_isToDo 3 = .ok (.invokevirtual 60, 3) := by decide +kernel
theorem dX7_isToDo_6 : decode cX7_isToDo 6 = .ok (.iconst 0, 1) := by decide +kernel
theorem dX7_isToDo_7 : decode cX7_isToDo 7 = .ok (.iconst 1, 1) := by decide +kernel
theorem dX7_isToDo_8 : decode cX7_isToDo 8 = .ok (.invokestatic 56, 3) := by decide +kernel
theorem dX7_isToDo_11 : decode cX7_isToDo 11 = .ok (.ireturn, 1) := by decide +kernel
def rm_X7_isToDo : Room := { frames := 1, cells := 0, slots := 0, locals := 22 }
set_option maxRecDepth 100000 in
set_option maxHeartbeats 4000000 in
theorem ok_X7_isToDo_0 {E : Ev} {X : Xt} {l0 : Launch} {K : Int32 → Hp → Prop} (hC : Cx E X l0 RX7 cX7_isToDo 2 rm_X7_isToDo) (hQ : CQ E X "isToDo" (some .boolean) rm_X7_isToDo (KI K)) (a0 : Nat) (a1 : Int32) (h : Hp) (hV : V_X7_isToDo a0 a1 h K) : WW E X h 0 0 0 [some (rv a0), some (.int a1)] [] := by
  unfold V_X7_isToDo at hV
  refine r_aload_n hC dX7_isToDo_0 rfl ?_
  refine r_iload_n hC dX7_isToDo_1 rfl ?_
  refine r_iconst (v := 3) hC dX7_isToDo_2 (by decide) ?_
  obtain ⟨k9, hV⟩ := hV
  refine r_callV (ci := 7) (As := [.int a1, .int 3]) hC dX7_isToDo_3 rfl cf_X7_ofJob ml_7_60 im_X7_ofJob sl_X7_ofJob lq_7 rfl rfl k9 rfl ⟨Nat.le_of_ble_eq_true rfl, Nat.le_of_ble_eq_true rfl, Nat.le_of_ble_eq_true rfl, Nat.le_of_ble_eq_true rfl⟩ cs0 (Nat.le_of_ble_eq_true rfl) (con_X7_ofJob a0 a1 3 h _ hV) rfl (kI (k := 0) (n := 0) (fun r1 h1 hV => ?_))
  refine r_iconst (v := 0) hC dX7_isToDo_6 (by decide) ?_
  refine r_iconst (v := 1) hC dX7_isToDo_7 (by decide) ?_
  refine r_callS (As := [.int r1, .int 0, .int 1]) hC dX7_isToDo_8 rfl cf_X7_in ml_7_56 st_X7_in rfl ⟨Nat.le_of_ble_eq_true rfl, Nat.le_of_ble_eq_true rfl, Nat.le_of_ble_eq_true rfl, Nat.le_of_ble_eq_true rfl⟩ cs0 (Nat.le_of_ble_eq_true rfl) (con_X7_in r1 0 1 h1 _ hV) rfl (kI (k := 0) (n := 0) (fun r2 h2 hV => ?_))
  exact r_zret hC hQ dX7_isToDo_11 (Nat.le_of_ble_eq_true rfl) (Nat.le_of_ble_eq_true rfl) hV.1 ⟨_, rfl, hV.2⟩
set_option maxRecDepth 100000 in
set_option maxHeartbeats 4000000 in
theorem con_X7_isToDo {E : Ev} {l0 : Launch} (a0 : Nat) (a1 : Int32) (h : Hp) (K : Int32 → Hp → Prop) (hV : V_X7_isToDo a0 a1 h K) : Con E l0 yX7_isToDo cX7_isToDo 2 (some .boolean) rm_X7_isToDo [rv a0, .int a1] h (KI K) := by
  refine Con.of (by decide +kernel) (cat_R (cat_I cat_nil)) (Nat.le_of_ble_eq_true rfl) (fun X hC hQ => ?_)
  refine r_sub (lo1 := [some (rv a0), some (.int a1)]) (show lsub [some (rv a0), some (.int a1)] _ from ⟨Or.inr rfl, ⟨Or.inr rfl, trivial⟩⟩) ?_
  exact ok_X7_isToDo_0 hC hQ a0 a1 h hV
theorem dX7_pastDue_0 : decode cX7_pastDue 0 = .ok (.iconst 0, 1) := by decide +kernel
theorem dX7_pastDue_1 : decode cX7_pastDue 1 = .ok (.istore_n 1, 1) := by decide +kernel
theorem dX7_pastDue_2 : decode cX7_pastDue 2 = .ok (.iconst 0, 1) := by decide +kernel
theorem dX7_pastDue_3 : decode cX7_pastDue 3 = .ok (.istore_n 2, 1) := by decide +kernel
theorem dX7_pastDue_4 : decode cX7_pastDue 4 = .ok (.iload_n 2, 1) := by decide +kernel
theorem dX7_pastDue_5 : decode cX7_pastDue 5 = .ok (.aload_n 0, 1) := by decide +kernel
theorem dX7_pastDue_6 : decode cX7_pastDue 6 = .ok (.getfield 7, 3) := by decide +kernel
theorem dX7_pastDue_9 : decode cX7_pastDue 9 = .ok (.iconst 1, 1) := by decide +kernel
theorem dX7_pastDue_10 : decode cX7_pastDue 10 = .ok (.iaload, 1) := by decide +kernel
theorem dX7_pastDue_11 : decode cX7_pastDue 11 = .ok (.if_icmp .ge 40, 3) := by decide +kernel
theorem dX7_pastDue_14 : decode cX7_pastDue 14 = .ok (.iload_n 1, 1) := by decide +kernel
theorem dX7_pastDue_15 : decode cX7_pastDue 15 = .ok (.aload_n 0, 1) := by decide +kernel
theorem dX7_pastDue_16 : decode cX7_pastDue 16 = .ok (.iload_n 2, 1) := by decide +kernel
theorem dX7_pastDue_17 : decode cX7_pastDue 17 = .ok (.invokevirtual 173, 3) := by decide +kernel
theorem dX7_pastDue_20 : decode cX7_pastDue 20 = .ok (.ifCond .eq 22, 3) := by decide +kernel
theorem dX7_pastDue_23 : decode cX7_pastDue 23 = .ok (.aload_n 0, 1) := by decide +kernel
theorem dX7_pastDue_24 : decode cX7_pastDue 24 = .ok (.iload_n 2, 1) := by decide +kernel
theorem dX7_pastDue_25 : decode cX7_pastDue 25 = .ok (.iconst 2, 1) := by decide +kernel
theorem dX7_pastDue_26 : decode cX7_pastDue 26 = .ok (.invokevirtual 60, 3) := by decide +kernel
theorem dX7_pastDue_29 : decode cX7_pastDue 29 = .ok (.aload_n 0, 1) := by decide +kernel
theorem dX7_pastDue_30 : decode cX7_pastDue 30 = .ok (.getfield 7, 3) := by decide +kernel
theorem dX7_pastDue_33 : decode cX7_pastDue 33 = .ok (.iconst 3, 1) := by decide +kernel
theorem dX7_pastDue_34 : decode cX7_pastDue 34 = .ok (.iaload, 1) := by decide +kernel
theorem dX7_pastDue_35 : decode cX7_pastDue 35 = .ok (.if_icmp .ge 7, 3) := by decide +kernel
theorem dX7_pastDue_38 : decode cX7_pastDue 38 = .ok (.iconst 1, 1) := by decide +kernel
theorem dX7_pastDue_39 : decode cX7_pastDue 39 = .ok (.goto 4, 3) := by decide +kernel
theorem dX7_pastDue_42 : decode cX7_pastDue 42 = .ok (.iconst 0, 1) := by decide +kernel
theorem dX7_pastDue_43 : decode cX7_pastDue 43 = .ok (.iadd, 1) := by decide +kernel
theorem dX7_pastDue_44 : decode cX7_pastDue 44 = .ok (.istore_n 1, 1) := by decide +kernel
theorem dX7_pastDue_45 : decode cX7_pastDue 45 = .ok (.iinc 2 1, 3) := by decide +kernel
theorem dX7_pastDue_48 : decode cX7_pastDue 48 = .ok (.goto (-44), 3) := by decide +kernel
theorem dX7_pastDue_51 : decode cX7_pastDue 51 = .ok (.iload_n 1, 1) := by decide +kernel
theorem dX7_pastDue_52 : decode cX7_pastDue 52 = .ok (.ireturn, 1) := by decide +kernel
def rm_X7_pastDue : Room := { frames := 2, cells := 0, slots := 0, locals := 43 }
set_option maxRecDepth 100000 in
set_option maxHeartbeats 4000000 in
theorem ok_X7_pastDue_43 {E : Ev} {X : Xt} {l0 : Launch} {K : Int32 → Hp → Prop} {C4 : Nat → Int32 → Int32 → Hp → Prop} (hC : Cx E X l0 RX7 cX7_pastDue 3 rm_X7_pastDue) (hQ : CQ E X "pastDue" (some .int) rm_X7_pastDue (KI K)) (hC4 : ∀ (a0 : Nat) (a1 : Int32) (a2 : Int32) (h : Hp), C4 a0 a1 a2 h → WW E X h 0 0 4 [some (rv a0), some (.int a1), some (.int a2)] []) (a0 : Nat) (a2 : Int32) (s0 : Int32) (s1 : Int32) (h : Hp) (hV : V_X7_pastDue_43 K C4 a0 a2 s0 s1 h) : WW E X h 0 0 43 [some (rv a0), none, some (.int a2)] [.int s1, .int s0] := by
  unfold V_X7_pastDue_43 at hV
  refine r_iadd hC dX7_pastDue_43 ?_
  refine r_istore_n (lo1 := [some (rv a0), some (.int (s0 + s1)), some (.int a2)]) hC dX7_pastDue_44 (Nat.le_of_ble_eq_true rfl) rfl ?_
  refine r_iinc (v := 1) (lo1 := [some (rv a0), some (.int (s0 + s1)), some (.int (a2 + 1))]) hC dX7_pastDue_45 rfl (by decide) rfl ?_
  refine r_goto (tgt := 4) hC dX7_pastDue_48 (by decide) ?_
  exact hC4 a0 (s0 + s1) (a2 + 1) h hV
set_option maxRecDepth 100000 in
set_option maxHeartbeats 4000000 in
theorem ok_X7_pastDue_42 {E : Ev} {X : Xt} {l0 : Launch} {K : Int32 → Hp → Prop} {C4 : Nat → Int32 → Int32 → Hp → Prop} (hC : Cx E X l0 RX7 cX7_pastDue 3 rm_X7_pastDue) (hQ : CQ E X "pastDue" (some .int) rm_X7_pastDue (KI K)) (hC4 : ∀ (a0 : Nat) (a1 : Int32) (a2 : Int32) (h : Hp), C4 a0 a1 a2 h → WW E X h 0 0 4 [some (rv a0), some (.int a1), some (.int a2)] []) (a0 : Nat) (a2 : Int32) (s0 : Int32) (h : Hp) (hV : V_X7_pastDue_42 K C4 a0 a2 s0 h) : WW E X h 0 0 42 [some (rv a0), none, some (.int a2)] [.int s0] := by
  unfold V_X7_pastDue_42 at hV
  refine r_iconst (v := 0) hC dX7_pastDue_42 (by decide) ?_
  exact ok_X7_pastDue_43 hC hQ hC4 a0 a2 s0 0 h hV
set_option maxRecDepth 100000 in
set_option maxHeartbeats 4000000 in
theorem ok_X7_pastDue_4 {E : Ev} {X : Xt} {l0 : Launch} {K : Int32 → Hp → Prop} (hC : Cx E X l0 RX7 cX7_pastDue 3 rm_X7_pastDue) (hQ : CQ E X "pastDue" (some .int) rm_X7_pastDue (KI K)) : ∀ (n : Nat) (a0 : Nat) (a1 : Int32) (a2 : Int32) (h : Hp), V_X7_pastDue_4 K n a0 a1 a2 h → WW E X h 0 0 4 [some (rv a0), some (.int a1), some (.int a2)] [] := by
  intro n
  induction n with
  | zero => intro a0 a1 a2 h hV; exact hV.elim
  | succ n ih =>
    intro a0 a1 a2 h hV
    unfold V_X7_pastDue_4 at hV
    refine r_iload_n hC dX7_pastDue_4 rfl ?_
    refine r_aload_n hC dX7_pastDue_5 rfl ?_
    obtain ⟨k9, hV⟩ := hV
    refine r_getR hC dX7_pastDue_6 fl_7_7 rf_7_0 lq_7 k9 ?_
    refine r_iconst (v := 1) hC dX7_pastDue_9 (by decide) ?_
    obtain ⟨k9, k8, hV⟩ := hV
    refine r_iald (kd := 60) hC dX7_pastDue_10 (by decide) rfl k9 k8 ?_
    refine r_icmp_ge (tgt := 51) hC dX7_pastDue_11 (by decide) (fun k9 => ?_) (fun k9 => ?_)
    · replace hV := hV.1 k9
      refine r_iload_n hC dX7_pastDue_51 rfl ?_
      exact r_iret hC hQ dX7_pastDue_52 (Nat.le_of_ble_eq_true rfl) (Nat.le_of_ble_eq_true rfl) ⟨_, rfl, hV⟩
    · replace hV := hV.2 k9
      refine r_iload_n hC dX7_pastDue_14 rfl ?_
      refine r_aload_n hC dX7_pastDue_15 rfl ?_
      refine r_iload_n hC dX7_pastDue_16 rfl ?_
      obtain ⟨k9, hV⟩ := hV
      refine r_callV (ci := 7) (As := [.int a2]) hC dX7_pastDue_17 rfl cf_X7_isToDo ml_7_173 im_X7_isToDo sl_X7_isToDo lq_7 rfl rfl k9 rfl ⟨Nat.le_of_ble_eq_true rfl, Nat.le_of_ble_eq_true rfl, Nat.le_of_ble_eq_true rfl, Nat.le_of_ble_eq_true rfl⟩ (csI cs0) (Nat.le_of_ble_eq_true rfl) (con_X7_isToDo a0 a2 h _ hV) rfl (kI (k := 0) (n := 0) (fun r1 h1 hV => ?_))
      refine r_if_eq (tgt := 42) hC dX7_pastDue_20 (by decide) (fun k9 => ?_) (fun k9 => ?_)
      · replace hV := hV.1 k9
        refine r_sub (lo1 := [some (rv a0), none, some (.int a2)]) ⟨Or.inr rfl, ⟨Or.inl rfl, ⟨Or.inr rfl, trivial⟩⟩⟩ ?_
        exact ok_X7_pastDue_42 hC hQ ih a0 a2 a1 h1 hV
      · replace hV := hV.2 k9
        refine r_aload_n hC dX7_pastDue_23 rfl ?_
        refine r_iload_n hC dX7_pastDue_24 rfl ?_
        refine r_iconst (v := 2) hC dX7_pastDue_25 (by decide) ?_
        obtain ⟨k9, hV⟩ := hV
        refine r_callV (ci := 7) (As := [.int a2, .int 2]) hC dX7_pastDue_26 rfl cf_X7_ofJob ml_7_60 im_X7_ofJob sl_X7_ofJob lq_7 rfl rfl k9 rfl ⟨Nat.le_of_ble_eq_true rfl, Nat.le_of_ble_eq_true rfl, Nat.le_of_ble_eq_true rfl, Nat.le_of_ble_eq_true rfl⟩ (csI cs0) (Nat.le_of_ble_eq_true rfl) (con_X7_ofJob a0 a2 2 h1 _ hV) rfl (kI (k := 0) (n := 0) (fun r2 h2 hV => ?_))
        refine r_aload_n hC dX7_pastDue_29 rfl ?_
        obtain ⟨k9, hV⟩ := hV
        refine r_getR hC dX7_pastDue_30 fl_7_7 rf_7_0 lq_7 k9 ?_
        refine r_iconst (v := 3) hC dX7_pastDue_33 (by decide) ?_
        obtain ⟨k9, k8, hV⟩ := hV
        refine r_iald (kd := 60) hC dX7_pastDue_34 (by decide) rfl k9 k8 ?_
        refine r_icmp_ge (tgt := 42) hC dX7_pastDue_35 (by decide) (fun k9 => ?_) (fun k9 => ?_)
        · replace hV := hV.1 k9
          refine r_sub (lo1 := [some (rv a0), none, some (.int a2)]) ⟨Or.inr rfl, ⟨Or.inl rfl, ⟨Or.inr rfl, trivial⟩⟩⟩ ?_
          exact ok_X7_pastDue_42 hC hQ ih a0 a2 a1 h2 hV
        · replace hV := hV.2 k9
          refine r_iconst (v := 1) hC dX7_pastDue_38 (by decide) ?_
          refine r_goto (tgt := 43) hC dX7_pastDue_39 (by decide) ?_
          refine r_sub (lo1 := [some (rv a0), none, some (.int a2)]) ⟨Or.inr rfl, ⟨Or.inl rfl, ⟨Or.inr rfl, trivial⟩⟩⟩ ?_
          exact ok_X7_pastDue_43 hC hQ ih a0 a2 a1 1 h2 hV
set_option maxRecDepth 100000 in
set_option maxHeartbeats 4000000 in
theorem ok_X7_pastDue_0 {E : Ev} {X : Xt} {l0 : Launch} {K : Int32 → Hp → Prop} (hC : Cx E X l0 RX7 cX7_pastDue 3 rm_X7_pastDue) (hQ : CQ E X "pastDue" (some .int) rm_X7_pastDue (KI K)) (a0 : Nat) (h : Hp) (hV : V_X7_pastDue a0 h K) : WW E X h 0 0 0 [some (rv a0), none, none] [] := by
  unfold V_X7_pastDue at hV
  refine r_iconst (v := 0) hC dX7_pastDue_0 (by decide) ?_
  refine r_istore_n (lo1 := [some (rv a0), some (.int 0), none]) hC dX7_pastDue_1 (Nat.le_of_ble_eq_true rfl) rfl ?_
  refine r_iconst (v := 0) hC dX7_pastDue_2 (by decide) ?_
  refine r_istore_n (lo1 := [some (rv a0), some (.int 0), some (.int 0)]) hC dX7_pastDue_3 (Nat.le_of_ble_eq_true rfl) rfl ?_
  obtain ⟨n9, hV⟩ := hV
  exact ok_X7_pastDue_4 hC hQ n9 a0 0 0 h hV
set_option maxRecDepth 100000 in
set_option maxHeartbeats 4000000 in
theorem con_X7_pastDue {E : Ev} {l0 : Launch} (a0 : Nat) (h : Hp) (K : Int32 → Hp → Prop) (hV : V_X7_pastDue a0 h K) : Con E l0 yX7_pastDue cX7_pastDue 3 (some .int) rm_X7_pastDue [rv a0] h (KI K) := by
  refine Con.of (by decide +kernel) (cat_R cat_nil) (Nat.le_of_ble_eq_true rfl) (fun X hC hQ => ?_)
  refine r_sub (lo1 := [some (rv a0), none, none]) (show lsub [some (rv a0), none, none] _ from ⟨Or.inr rfl, ⟨Or.inr rfl, ⟨Or.inr rfl, trivial⟩⟩⟩) ?_
  exact ok_X7_pastDue_0 hC hQ a0 h hV
theorem dX7_count_0 : decode cX7_count 0 = .ok (.iload_n 1, 1) := by decide +kernel
theorem dX7_count_1 : decode cX7_count 1 = .ok (.tableswitch 177 0 15 #[79, 86, 93, 100, 105, 110, 115, 122, 129, 137, 145, 150, 157, 162, 167, 172], 79) := by decide +kernel
theorem dX7_count_80 : decode cX7_count 80 = .ok (.aload_n 0, 1) := by decide +kernel
theorem dX7_count_81 : decode cX7_count 81 = .ok (.getfield 7, 3) := by decide +kernel
theorem dX7_count_84 : decode cX7_count 84 = .ok (.iconst 0, 1) := by decide +kernel
theorem dX7_count_85 : decode cX7_count 85 = .ok (.iaload, 1) := by decide +kernel
theorem dX7_count_86 : decode cX7_count 86 = .ok (.ireturn, 1) := by decide +kernel
theorem dX7_count_87 : decode cX7_count 87 = .ok (.aload_n 0, 1) := by decide +kernel
theorem dX7_count_88 : decode cX7_count 88 = .ok (.getfield 7, 3) := by decide +kernel
theorem dX7_count_91 : decode cX7_count 91 = .ok (.iconst 1, 1) := by decide +kernel
theorem dX7_count_92 : decode cX7_count 92 = .ok (.iaload, 1) := by decide +kernel
theorem dX7_count_93 : decode cX7_count 93 = .ok (.ireturn, 1) := by decide +kernel
theorem dX7_count_94 : decode cX7_count 94 = .ok (.aload_n 0, 1) := by decide +kernel
theorem dX7_count_95 : decode cX7_count 95 = .ok (.getfield 7, 3) := by decide +kernel
theorem dX7_count_98 : decode cX7_count 98 = .ok (.iconst 2, 1) := by decide +kernel
theorem dX7_count_99 : decode cX7_count 99 = .ok (.iaload, 1) := by decide +kernel
theorem dX7_count_100 : decode cX7_count 100 = .ok (.ireturn, 1) := by decide +kernel
theorem dX7_count_101 : decode cX7_count 101 = .ok (.aload_n 0, 1) := by decide +kernel
theorem dX7_count_102 : decode cX7_count 102 = .ok (.invokevirtual 176, 3) := by decide +kernel
theorem dX7_count_105 : decode cX7_count 105 = .ok (.ireturn, 1) := by decide +kernel
theorem dX7_count_106 : decode cX7_count 106 = .ok (.aload_n 0, 1) := by decide +kernel
theorem dX7_count_107 : decode cX7_count 107 = .ok (.invokevirtual 179, 3) := by decide +kernel
theorem dX7_count_110 : decode cX7_count 110 = .ok (.ireturn, 1) := by decide +kernel
theorem dX7_count_111 : decode cX7_count 111 = .ok (.aload_n 0, 1) := by decide +kernel
theorem dX7_count_112 : decode cX7_count 112 = .ok (.invokevirtual 90, 3) := by decide +kernel
theorem dX7_count_115 : decode cX7_count 115 = .ok (.ireturn, 1) := by decide +kernel
theorem dX7_count_116 : decode cX7_count 116 = .ok (.aload_n 0, 1) := by decide +kernel
theorem dX7_count_117 : decode cX7_count 117 = .ok (.getfield 7, 3) := by decide +kernel
theorem dX7_count_120 : decode cX7_count 120 = .ok (.iconst 4, 1) := by decide +kernel
theorem dX7_count_121 : decode cX7_count 121 = .ok (.iaload, 1) := by decide +kernel
theorem dX7_count_122 : decode cX7_count 122 = .ok (.ireturn, 1) := by decide +kernel
theorem dX7_count_123 : decode cX7_count 123 = .ok (.aload_n 0, 1) := by decide +kernel
theorem dX7_count_124 : decode cX7_count 124 = .ok (.getfield 7, 3) := by decide +kernel
theorem dX7_count_127 : decode cX7_count 127 = .ok (.iconst 5, 1) := by decide +kernel
theorem dX7_count_128 : decode cX7_count 128 = .ok (.iaload, 1) := by decide +kernel
theorem dX7_count_129 : decode cX7_count 129 = .ok (.ireturn, 1) := by decide +kernel
theorem dX7_count_130 : decode cX7_count 130 = .ok (.aload_n 0, 1) := by decide +kernel
theorem dX7_count_131 : decode cX7_count 131 = .ok (.getfield 7, 3) := by decide +kernel
theorem dX7_count_134 : decode cX7_count 134 = .ok (.bipush 6, 2) := by decide +kernel
theorem dX7_count_136 : decode cX7_count 136 = .ok (.iaload, 1) := by decide +kernel
theorem dX7_count_137 : decode cX7_count 137 = .ok (.ireturn, 1) := by decide +kernel
theorem dX7_count_138 : decode cX7_count 138 = .ok (.aload_n 0, 1) := by decide +kernel
theorem dX7_count_139 : decode cX7_count 139 = .ok (.getfield 7, 3) := by decide +kernel
theorem dX7_count_142 : decode cX7_count 142 = .ok (.bipush 7, 2) := by decide +kernel
theorem dX7_count_144 : decode cX7_count 144 = .ok (.iaload, 1) := by decide +kernel
theorem dX7_count_145 : decode cX7_count 145 = .ok (.ireturn, 1) := by decide +kernel
theorem dX7_count_146 : decode cX7_count 146 = .ok (.aload_n 0, 1) := by decide +kernel
theorem dX7_count_147 : decode cX7_count 147 = .ok (.invokevirtual 86, 3) := by decide +kernel
theorem dX7_count_150 : decode cX7_count 150 = .ok (.ireturn, 1) := by decide +kernel
theorem dX7_count_151 : decode cX7_count 151 = .ok (.aload_n 0, 1) := by decide +kernel
theorem dX7_count_152 : decode cX7_count 152 = .ok (.getfield 7, 3) := by decide +kernel
theorem dX7_count_155 : decode cX7_count 155 = .ok (.iconst 3, 1) := by decide +kernel
theorem dX7_count_156 : decode cX7_count 156 = .ok (.iaload, 1) := by decide +kernel
theorem dX7_count_157 : decode cX7_count 157 = .ok (.ireturn, 1) := by decide +kernel
theorem dX7_count_158 : decode cX7_count 158 = .ok (.aload_n 0, 1) := by decide +kernel
theorem dX7_count_159 : decode cX7_count 159 = .ok (.invokevirtual 182, 3) := by decide +kernel
theorem dX7_count_162 : decode cX7_count 162 = .ok (.ireturn, 1) := by decide +kernel
theorem dX7_count_163 : decode cX7_count 163 = .ok (.aload_n 0, 1) := by decide +kernel
theorem dX7_count_164 : decode cX7_count 164 = .ok (.invokevirtual 185, 3) := by decide +kernel
theorem dX7_count_167 : decode cX7_count 167 = .ok (.ireturn, 1) := by decide +kernel
theorem dX7_count_168 : decode cX7_count 168 = .ok (.aload_n 0, 1) := by decide +kernel
theorem dX7_count_169 : decode cX7_count 169 = .ok (.getfield 52, 3) := by decide +kernel
theorem dX7_count_172 : decode cX7_count 172 = .ok (.ireturn, 1) := by decide +kernel
theorem dX7_count_173 : decode cX7_count 173 = .ok (.aload_n 0, 1) := by decide +kernel
theorem dX7_count_174 : decode cX7_count 174 = .ok (.getfield 93, 3) := by decide +kernel
theorem dX7_count_177 : decode cX7_count 177 = .ok (.ireturn, 1) := by decide +kernel
theorem dX7_count_178 : decode cX7_count 178 = .ok (.bipush (-2), 2) := by decide +kernel
theorem dX7_count_180 : decode cX7_count 180 = .ok (.ireturn, 1) := by decide +kernel
def rm_X7_count : Room := { frames := 3, cells := 0, slots := 0, locals := 69 }
set_option maxRecDepth 100000 in
set_option maxHeartbeats 4000000 in
theorem ok_X7_count_0 {E : Ev} {X : Xt} {l0 : Launch} {K : Int32 → Hp → Prop} (hC : Cx E X l0 RX7 cX7_count 2 rm_X7_count) (hQ : CQ E X "count" (some .int) rm_X7_count (KI K)) (a0 : Nat) (a1 : Int32) (h : Hp) (hV : V_X7_count a0 a1 h K) : WW E X h 0 0 0 [some (rv a0), some (.int a1)] [] := by
  unfold V_X7_count at hV
  refine r_iload_n hC dX7_count_0 rfl ?_
  rcases (show a1.toInt = 0 ∨ a1.toInt = 1 ∨ a1.toInt = 2 ∨ a1.toInt = 3 ∨ a1.toInt = 4 ∨ a1.toInt = 5 ∨ a1.toInt = 6 ∨ a1.toInt = 7 ∨ a1.toInt = 8 ∨ a1.toInt = 9 ∨ a1.toInt = 10 ∨ a1.toInt = 11 ∨ a1.toInt = 12 ∨ a1.toInt = 13 ∨ a1.toInt = 14 ∨ a1.toInt = 15 ∨ (a1.toInt < 0 ∨ 15 < a1.toInt) by omega) with k9 | k9 | k9 | k9 | k9 | k9 | k9 | k9 | k9 | k9 | k9 | k9 | k9 | k9 | k9 | k9 | k9
  · replace hV := hV.1 k9
    refine r_tabIn (tgt := 80) hC dX7_count_1 0 (by omega) (by decide) rfl (by decide) ?_
    refine r_aload_n hC dX7_count_80 rfl ?_
    obtain ⟨k9, hV⟩ := hV
    refine r_getR hC dX7_count_81 fl_7_7 rf_7_0 lq_7 k9 ?_
    refine r_iconst (v := 0) hC dX7_count_84 (by decide) ?_
    obtain ⟨k9, k8, hV⟩ := hV
    refine r_iald (kd := 60) hC dX7_count_85 (by decide) rfl k9 k8 ?_
    exact r_iret hC hQ dX7_count_86 (Nat.le_of_ble_eq_true rfl) (Nat.le_of_ble_eq_true rfl) ⟨_, rfl, hV⟩
  · replace hV := hV.2.1 k9
    refine r_tabIn (tgt := 87) hC dX7_count_1 1 (by omega) (by decide) rfl (by decide) ?_
    refine r_aload_n hC dX7_count_87 rfl ?_
    obtain ⟨k9, hV⟩ := hV
    refine r_getR hC dX7_count_88 fl_7_7 rf_7_0 lq_7 k9 ?_
    refine r_iconst (v := 1) hC dX7_count_91 (by decide) ?_
    obtain ⟨k9, k8, hV⟩ := hV
    refine r_iald (kd := 60) hC dX7_count_92 (by decide) rfl k9 k8 ?_
    exact r_iret hC hQ dX7_count_93 (Nat.le_of_ble_eq_true rfl) (Nat.le_of_ble_eq_true rfl) ⟨_, rfl, hV⟩
  · replace hV := hV.2.2.1 k9
    refine r_tabIn (tgt := 94) hC dX7_count_1 2 (by omega) (by decide) rfl (by decide) ?_
    refine r_aload_n hC dX7_count_94 rfl ?_
    obtain ⟨k9, hV⟩ := hV
    refine r_getR hC dX7_count_95 fl_7_7 rf_7_0 lq_7 k9 ?_
    refine r_iconst (v := 2) hC dX7_count_98 (by decide) ?_
    obtain ⟨k9, k8, hV⟩ := hV
    refine r_iald (kd := 60) hC dX7_count_99 (by decide) rfl k9 k8 ?_
    exact r_iret hC hQ dX7_count_100 (Nat.le_of_ble_eq_true rfl) (Nat.le_of_ble_eq_true rfl) ⟨_, rfl, hV⟩
  · replace hV := hV.2.2.2.1 k9
    refine r_tabIn (tgt := 101) hC dX7_count_1 3 (by omega) (by decide) rfl (by decide) ?_
    refine r_aload_n hC dX7_count_101 rfl ?_
    obtain ⟨k9, hV⟩ := hV
    refine r_callV (ci := 7) (As := []) hC dX7_count_102 rfl cf_X7_caseMetal ml_7_176 im_X7_caseMetal sl_X7_caseMetal lq_7 rfl rfl k9 rfl ⟨Nat.le_of_ble_eq_true rfl, Nat.le_of_ble_eq_true rfl, Nat.le_of_ble_eq_true rfl, Nat.le_of_ble_eq_true rfl⟩ cs0 (Nat.le_of_ble_eq_true rfl) (con_X7_caseMetal a0 h _ hV) rfl (kI (k := 0) (n := 0) (fun r1 h1 hV => ?_))
    exact r_iret hC hQ dX7_count_105 (Nat.le_of_ble_eq_true rfl) (Nat.le_of_ble_eq_true rfl) ⟨_, rfl, hV⟩
  · replace hV := hV.2.2.2.2.1 k9
    refine r_tabIn (tgt := 106) hC dX7_count_1 4 (by omega) (by decide) rfl (by decide) ?_
    refine r_aload_n hC dX7_count_106 rfl ?_
    obtain ⟨k9, hV⟩ := hV
    refine r_callV (ci := 7) (As := []) hC dX7_count_107 rfl cf_X7_formeMetal ml_7_179 im_X7_formeMetal sl_X7_formeMetal lq_7 rfl rfl k9 rfl ⟨Nat.le_of_ble_eq_true rfl, Nat.le_of_ble_eq_true rfl, Nat.le_of_ble_eq_true rfl, Nat.le_of_ble_eq_true rfl⟩ cs0 (Nat.le_of_ble_eq_true rfl) (con_X7_formeMetal a0 h _ hV) rfl (kI (k := 0) (n := 0) (fun r1 h1 hV => ?_))
    exact r_iret hC hQ dX7_count_110 (Nat.le_of_ble_eq_true rfl) (Nat.le_of_ble_eq_true rfl) ⟨_, rfl, hV⟩
  · replace hV := hV.2.2.2.2.2.1 k9
    refine r_tabIn (tgt := 111) hC dX7_count_1 5 (by omega) (by decide) rfl (by decide) ?_
    refine r_aload_n hC dX7_count_111 rfl ?_
    obtain ⟨k9, hV⟩ := hV
    refine r_callV (ci := 7) (As := []) hC dX7_count_112 rfl cf_X7_boxMetal ml_7_90 im_X7_boxMetal sl_X7_boxMetal lq_7 rfl rfl k9 rfl ⟨Nat.le_of_ble_eq_true rfl, Nat.le_of_ble_eq_true rfl, Nat.le_of_ble_eq_true rfl, Nat.le_of_ble_eq_true rfl⟩ cs0 (Nat.le_of_ble_eq_true rfl) (con_X7_boxMetal a0 h _ hV) rfl (kI (k := 0) (n := 0) (fun r1 h1 hV => ?_))
    exact r_iret hC hQ dX7_count_115 (Nat.le_of_ble_eq_true rfl) (Nat.le_of_ble_eq_true rfl) ⟨_, rfl, hV⟩
  · replace hV := hV.2.2.2.2.2.2.1 k9
    refine r_tabIn (tgt := 116) hC dX7_count_1 6 (by omega) (by decide) rfl (by decide) ?_
    refine r_aload_n hC dX7_count_116 rfl ?_
    obtain ⟨k9, hV⟩ := hV
    refine r_getR hC dX7_count_117 fl_7_7 rf_7_0 lq_7 k9 ?_
    refine r_iconst (v := 4) hC dX7_count_120 (by decide) ?_
    obtain ⟨k9, k8, hV⟩ := hV
    refine r_iald (kd := 60) hC dX7_count_121 (by decide) rfl k9 k8 ?_
    exact r_iret hC hQ dX7_count_122 (Nat.le_of_ble_eq_true rfl) (Nat.le_of_ble_eq_true rfl) ⟨_, rfl, hV⟩
  · replace hV := hV.2.2.2.2.2.2.2.1 k9
    refine r_tabIn (tgt := 123) hC dX7_count_1 7 (by omega) (by decide) rfl (by decide) ?_
    refine r_aload_n hC dX7_count_123 rfl ?_
    obtain ⟨k9, hV⟩ := hV
    refine r_getR hC dX7_count_124 fl_7_7 rf_7_0 lq_7 k9 ?_
    refine r_iconst (v := 5) hC dX7_count_127 (by decide) ?_
    obtain ⟨k9, k8, hV⟩ := hV
    refine r_iald (kd := 60) hC dX7_count_128 (by decide) rfl k9 k8 ?_
    exact r_iret hC hQ dX7_count_129 (Nat.le_of_ble_eq_true rfl) (Nat.le_of_ble_eq_true rfl) ⟨_, rfl, hV⟩
  · replace hV := hV.2.2.2.2.2.2.2.2.1 k9
    refine r_tabIn (tgt := 130) hC dX7_count_1 8 (by omega) (by decide) rfl (by decide) ?_
    refine r_aload_n hC dX7_count_130 rfl ?_
    obtain ⟨k9, hV⟩ := hV
    refine r_getR hC dX7_count_131 fl_7_7 rf_7_0 lq_7 k9 ?_
    refine r_bipush (v := 6) hC dX7_count_134 (by decide) ?_
    obtain ⟨k9, k8, hV⟩ := hV
    refine r_iald (kd := 60) hC dX7_count_136 (by decide) rfl k9 k8 ?_
    exact r_iret hC hQ dX7_count_137 (Nat.le_of_ble_eq_true rfl) (Nat.le_of_ble_eq_true rfl) ⟨_, rfl, hV⟩
  · replace hV := hV.2.2.2.2.2.2.2.2.2.1 k9
    refine r_tabIn (tgt := 138) hC dX7_count_1 9 (by omega) (by decide) rfl (by decide) ?_
    refine r_aload_n hC dX7_count_138 rfl ?_
    obtain ⟨k9, hV⟩ := hV
    refine r_getR hC dX7_count_139 fl_7_7 rf_7_0 lq_7 k9 ?_
    refine r_bipush (v := 7) hC dX7_count_142 (by decide) ?_
    obtain ⟨k9, k8, hV⟩ := hV
    refine r_iald (kd := 60) hC dX7_count_144 (by decide) rfl k9 k8 ?_
    exact r_iret hC hQ dX7_count_145 (Nat.le_of_ble_eq_true rfl) (Nat.le_of_ble_eq_true rfl) ⟨_, rfl, hV⟩
  · replace hV := hV.2.2.2.2.2.2.2.2.2.2.1 k9
    refine r_tabIn (tgt := 146) hC dX7_count_1 10 (by omega) (by decide) rfl (by decide) ?_
    refine r_aload_n hC dX7_count_146 rfl ?_
    obtain ⟨k9, hV⟩ := hV
    refine r_callV (ci := 7) (As := []) hC dX7_count_147 rfl cf_X7_inBox ml_7_86 im_X7_inBox sl_X7_inBox lq_7 rfl rfl k9 rfl ⟨Nat.le_of_ble_eq_true rfl, Nat.le_of_ble_eq_true rfl, Nat.le_of_ble_eq_true rfl, Nat.le_of_ble_eq_true rfl⟩ cs0 (Nat.le_of_ble_eq_true rfl) (con_X7_inBox a0 h _ hV) rfl (kI (k := 0) (n := 0) (fun r1 h1 hV => ?_))
    exact r_iret hC hQ dX7_count_150 (Nat.le_of_ble_eq_true rfl) (Nat.le_of_ble_eq_true rfl) ⟨_, rfl, hV⟩
  · replace hV := hV.2.2.2.2.2.2.2.2.2.2.2.1 k9
    refine r_tabIn (tgt := 151) hC dX7_count_1 11 (by omega) (by decide) rfl (by decide) ?_
    refine r_aload_n hC dX7_count_151 rfl ?_
    obtain ⟨k9, hV⟩ := hV
    refine r_getR hC dX7_count_152 fl_7_7 rf_7_0 lq_7 k9 ?_
    refine r_iconst (v := 3) hC dX7_count_155 (by decide) ?_
    obtain ⟨k9, k8, hV⟩ := hV
    refine r_iald (kd := 60) hC dX7_count_156 (by decide) rfl k9 k8 ?_
    exact r_iret hC hQ dX7_count_157 (Nat.le_of_ble_eq_true rfl) (Nat.le_of_ble_eq_true rfl) ⟨_, rfl, hV⟩
  · replace hV := hV.2.2.2.2.2.2.2.2.2.2.2.2.1 k9
    refine r_tabIn (tgt := 158) hC dX7_count_1 12 (by omega) (by decide) rfl (by decide) ?_
    refine r_aload_n hC dX7_count_158 rfl ?_
    obtain ⟨k9, hV⟩ := hV
    refine r_callV (ci := 7) (As := []) hC dX7_count_159 rfl cf_X7_lateDays ml_7_182 im_X7_lateDays sl_X7_lateDays lq_7 rfl rfl k9 rfl ⟨Nat.le_of_ble_eq_true rfl, Nat.le_of_ble_eq_true rfl, Nat.le_of_ble_eq_true rfl, Nat.le_of_ble_eq_true rfl⟩ cs0 (Nat.le_of_ble_eq_true rfl) (con_X7_lateDays a0 h _ hV) rfl (kI (k := 0) (n := 0) (fun r1 h1 hV => ?_))
    exact r_iret hC hQ dX7_count_162 (Nat.le_of_ble_eq_true rfl) (Nat.le_of_ble_eq_true rfl) ⟨_, rfl, hV⟩
  · replace hV := hV.2.2.2.2.2.2.2.2.2.2.2.2.2.1 k9
    refine r_tabIn (tgt := 163) hC dX7_count_1 13 (by omega) (by decide) rfl (by decide) ?_
    refine r_aload_n hC dX7_count_163 rfl ?_
    obtain ⟨k9, hV⟩ := hV
    refine r_callV (ci := 7) (As := []) hC dX7_count_164 rfl cf_X7_pastDue ml_7_185 im_X7_pastDue sl_X7_pastDue lq_7 rfl rfl k9 rfl ⟨Nat.le_of_ble_eq_true rfl, Nat.le_of_ble_eq_true rfl, Nat.le_of_ble_eq_true rfl, Nat.le_of_ble_eq_true rfl⟩ cs0 (Nat.le_of_ble_eq_true rfl) (con_X7_pastDue a0 h _ hV) rfl (kI (k := 0) (n := 0) (fun r1 h1 hV => ?_))
    exact r_iret hC hQ dX7_count_167 (Nat.le_of_ble_eq_true rfl) (Nat.le_of_ble_eq_true rfl) ⟨_, rfl, hV⟩
  · replace hV := hV.2.2.2.2.2.2.2.2.2.2.2.2.2.2.1 k9
    refine r_tabIn (tgt := 168) hC dX7_count_1 14 (by omega) (by decide) rfl (by decide) ?_
    refine r_aload_n hC dX7_count_168 rfl ?_
    obtain ⟨k9, hV⟩ := hV
    refine r_getI hC dX7_count_169 fl_7_52 rf_7_2 lq_7 k9 ?_
    exact r_iret hC hQ dX7_count_172 (Nat.le_of_ble_eq_true rfl) (Nat.le_of_ble_eq_true rfl) ⟨_, rfl, hV⟩
  · replace hV := hV.2.2.2.2.2.2.2.2.2.2.2.2.2.2.2.1 k9
    refine r_tabIn (tgt := 173) hC dX7_count_1 15 (by omega) (by decide) rfl (by decide) ?_
    refine r_aload_n hC dX7_count_173 rfl ?_
    obtain ⟨k9, hV⟩ := hV
    refine r_getI hC dX7_count_174 fl_7_93 rf_7_5 lq_7 k9 ?_
    exact r_iret hC hQ dX7_count_177 (Nat.le_of_ble_eq_true rfl) (Nat.le_of_ble_eq_true rfl) ⟨_, rfl, hV⟩
  · replace hV := hV.2.2.2.2.2.2.2.2.2.2.2.2.2.2.2.2 k9
    refine r_tabOut (tgt := 178) hC dX7_count_1 k9 (by decide) ?_
    refine r_bipush (v := (-2)) hC dX7_count_178 (by decide) ?_
    exact r_iret hC hQ dX7_count_180 (Nat.le_of_ble_eq_true rfl) (Nat.le_of_ble_eq_true rfl) ⟨_, rfl, hV⟩
set_option maxRecDepth 100000 in
set_option maxHeartbeats 4000000 in
theorem con_X7_count {E : Ev} {l0 : Launch} (a0 : Nat) (a1 : Int32) (h : Hp) (K : Int32 → Hp → Prop) (hV : V_X7_count a0 a1 h K) : Con E l0 yX7_count cX7_count 2 (some .int) rm_X7_count [rv a0, .int a1] h (KI K) := by
  refine Con.of (by decide +kernel) (cat_R (cat_I cat_nil)) (Nat.le_of_ble_eq_true rfl) (fun X hC hQ => ?_)
  refine r_sub (lo1 := [some (rv a0), some (.int a1)]) (show lsub [some (rv a0), some (.int a1)] _ from ⟨Or.inr rfl, ⟨Or.inr rfl, trivial⟩⟩) ?_
  exact ok_X7_count_0 hC hQ a0 a1 h hV
