theorem dX7_pieceAt_0 : decode cX7_pieceAt 0 = .ok (.aload_n 0, 1) := by decide +kernel
theorem dX7_pieceAt_1 : decode cX7_pieceAt 1 = .ok (.iload_n 1, 1) := by decide +kernel
theorem dX7_pieceAt_2 : decode cX7_pieceAt 2 = .ok (.invokevirtual 144, 3) := by decide +kernel
theorem dX7_pieceAt_5 : decode cX7_pieceAt 5 = .ok (.ifCond .eq 5, 3) := by decide +kernel
theorem dX7_pieceAt_8 : decode cX7_pieceAt 8 = .ok (.iconst (-1), 1) := by decide +kernel
theorem dX7_pieceAt_9 : decode cX7_pieceAt 9 = .ok (.ireturn, 1) := by decide +kernel
theorem dX7_pieceAt_10 : decode cX7_pieceAt 10 = .ok (.aload_n 0, 1) := by decide +kernel
theorem dX7_pieceAt_11 : decode cX7_pieceAt 11 = .ok (.iload_n 1, 1) := by decide +kernel
theorem dX7_pieceAt_12 : decode cX7_pieceAt 12 = .ok (.invokevirtual 125, 3) := by decide +kernel
theorem dX7_pieceAt_15 : decode cX7_pieceAt 15 = .ok (.ifCond .ne 6, 3) := by decide +kernel
theorem dX7_pieceAt_18 : decode cX7_pieceAt 18 = .ok (.bipush (-4), 2) := by decide +kernel
theorem dX7_pieceAt_20 : decode cX7_pieceAt 20 = .ok (.ireturn, 1) := by decide +kernel
theorem dX7_pieceAt_21 : decode cX7_pieceAt 21 = .ok (.aload_n 0, 1) := by decide +kernel
theorem dX7_pieceAt_22 : decode cX7_pieceAt 22 = .ok (.iload_n 1, 1) := by decide +kernel
theorem dX7_pieceAt_23 : decode cX7_pieceAt 23 = .ok (.invokevirtual 122, 3) := by decide +kernel
theorem dX7_pieceAt_26 : decode cX7_pieceAt 26 = .ok (.iload_n 2, 1) := by decide +kernel
theorem dX7_pieceAt_27 : decode cX7_pieceAt 27 = .ok (.iconst 0, 1) := by decide +kernel
theorem dX7_pieceAt_28 : decode cX7_pieceAt 28 = .ok (.aload_n 0, 1) := by decide +kernel
theorem dX7_pieceAt_29 : decode cX7_pieceAt 29 = .ok (.getfield 106, 3) := by decide +kernel
theorem dX7_pieceAt_32 : decode cX7_pieceAt 32 = .ok (.iconst 1, 1) := by decide +kernel
theorem dX7_pieceAt_33 : decode cX7_pieceAt 33 = .ok (.isub, 1) := by decide +kernel
theorem dX7_pieceAt_34 : decode cX7_pieceAt 34 = .ok (.invokestatic 56, 3) := by decide +kernel
theorem dX7_pieceAt_37 : decode cX7_pieceAt 37 = .ok (.ifCond .eq 7, 3) := by decide +kernel
theorem dX7_pieceAt_40 : decode cX7_pieceAt 40 = .ok (.iload_n 3, 1) := by decide +kernel
theorem dX7_pieceAt_41 : decode cX7_pieceAt 41 = .ok (.ifCond .ge 6, 3) := by decide +kernel
theorem dX7_pieceAt_44 : decode cX7_pieceAt 44 = .ok (.bipush (-5), 2) := by decide +kernel
theorem dX7_pieceAt_46 : decode cX7_pieceAt 46 = .ok (.ireturn, 1) := by decide +kernel
theorem dX7_pieceAt_47 : decode cX7_pieceAt 47 = .ok (.iload_n 3, 1) := by decide +kernel
theorem dX7_pieceAt_48 : decode cX7_pieceAt 48 = .ok (.istore 4, 2) := by decide +kernel
theorem dX7_pieceAt_50 : decode cX7_pieceAt 50 = .ok (.aload_n 0, 1) := by decide +kernel
theorem dX7_pieceAt_51 : decode cX7_pieceAt 51 = .ok (.getfield 31, 3) := by decide +kernel
theorem dX7_pieceAt_54 : decode cX7_pieceAt 54 = .ok (.iload_n 2, 1) := by decide +kernel
theorem dX7_pieceAt_55 : decode cX7_pieceAt 55 = .ok (.iaload, 1) := by decide +kernel
theorem dX7_pieceAt_56 : decode cX7_pieceAt 56 = .ok (.istore 5, 2) := by decide +kernel
theorem dX7_pieceAt_58 : decode cX7_pieceAt 58 = .ok (.aload_n 0, 1) := by decide +kernel
theorem dX7_pieceAt_59 : decode cX7_pieceAt 59 = .ok (.getfield 25, 3) := by decide +kernel
theorem dX7_pieceAt_62 : decode cX7_pieceAt 62 = .ok (.iload_n 2, 1) := by decide +kernel
theorem dX7_pieceAt_63 : decode cX7_pieceAt 63 = .ok (.iaload, 1) := by decide +kernel
theorem dX7_pieceAt_64 : decode cX7_pieceAt 64 = .ok (.istore 6, 2) := by decide +kernel
theorem dX7_pieceAt_66 : decode cX7_pieceAt 66 = .ok (.iload 6, 2) := by decide +kernel
theorem dX7_pieceAt_68 : decode cX7_pieceAt 68 = .ok (.aload_n 0, 1) := by decide +kernel
theorem dX7_pieceAt_69 : decode cX7_pieceAt 69 = .ok (.getfield 28, 3) := by decide +kernel
theorem dX7_pieceAt_72 : decode cX7_pieceAt 72 = .ok (.iload_n 2, 1) := by decide +kernel
theorem dX7_pieceAt_73 : decode cX7_pieceAt 73 = .ok (.iaload, 1) := by decide +kernel
theorem dX7_pieceAt_74 : decode cX7_pieceAt 74 = .ok (.if_icmp .ge 86, 3) := by decide +kernel
theorem dX7_pieceAt_77 : decode cX7_pieceAt 77 = .ok (.aload_n 0, 1) := by decide +kernel
theorem dX7_pieceAt_78 : decode cX7_pieceAt 78 = .ok (.getfield 22, 3) := by decide +kernel
theorem dX7_pieceAt_81 : decode cX7_pieceAt 81 = .ok (.iload 6, 2) := by decide +kernel
theorem dX7_pieceAt_83 : decode cX7_pieceAt 83 = .ok (.iaload, 1) := by decide +kernel
theorem dX7_pieceAt_84 : decode cX7_pieceAt 84 = .ok (.invokestatic 96, 3) := by decide +kernel
theorem dX7_pieceAt_87 : decode cX7_pieceAt 87 = .ok (.ifCond .eq 22, 3) := by decide +kernel
theorem dX7_pieceAt_90 : decode cX7_pieceAt 90 = .ok (.iload 4, 2) := by decide +kernel
theorem dX7_pieceAt_92 : decode cX7_pieceAt 92 = .ok (.ifCond .ne 11, 3) := by decide +kernel
theorem dX7_pieceAt_95 : decode cX7_pieceAt 95 = .ok (.aload_n 0, 1) := by decide +kernel
theorem dX7_pieceAt_96 : decode cX7_pieceAt 96 = .ok (.getfield 22, 3) := by decide +kernel
theorem dX7_pieceAt_99 : decode cX7_pieceAt 99 = .ok (.iload 6, 2) := by decide +kernel
theorem dX7_pieceAt_101 : decode cX7_pieceAt 101 = .ok (.iaload, 1) := by decide +kernel
theorem dX7_pieceAt_102 : decode cX7_pieceAt 102 = .ok (.ireturn, 1) := by decide +kernel
theorem dX7_pieceAt_103 : decode cX7_pieceAt 103 = .ok (.iinc 4 (-1), 3) := by decide +kernel
theorem dX7_pieceAt_106 : decode cX7_pieceAt 106 = .ok (.goto 48, 3) := by decide +kernel
theorem dX7_pieceAt_109 : decode cX7_pieceAt 109 = .ok (.aload_n 0, 1) := by decide +kernel
theorem dX7_pieceAt_110 : decode cX7_pieceAt 110 = .ok (.iload_n 1, 1) := by decide +kernel
theorem dX7_pieceAt_111 : decode cX7_pieceAt 111 = .ok (.sipush 241, 3) := by decide +kernel
theorem dX7_pieceAt_114 : decode cX7_pieceAt 114 = .ok (.iload 5, 2) := by decide +kernel
theorem dX7_pieceAt_116 : decode cX7_pieceAt 116 = .ok (.iadd, 1) := by decide +kernel
theorem dX7_pieceAt_117 : decode cX7_pieceAt 117 = .ok (.invokevirtual 60, 3) := by decide +kernel
theorem dX7_pieceAt_120 : decode cX7_pieceAt 120 = .ok (.istore 7, 2) := by decide +kernel
theorem dX7_pieceAt_122 : decode cX7_pieceAt 122 = .ok (.iload 4, 2) := by decide +kernel
theorem dX7_pieceAt_124 : decode cX7_pieceAt 124 = .ok (.iload 7, 2) := by decide +kernel
theorem dX7_pieceAt_126 : decode cX7_pieceAt 126 = .ok (.invokestatic 167, 3) := by decide +kernel
theorem dX7_pieceAt_129 : decode cX7_pieceAt 129 = .ok (.if_icmp .ge 12, 3) := by decide +kernel
theorem dX7_pieceAt_132 : decode cX7_pieceAt 132 = .ok (.aload_n 0, 1) := by decide +kernel
theorem dX7_pieceAt_133 : decode cX7_pieceAt 133 = .ok (.iload 7, 2) := by decide +kernel
theorem dX7_pieceAt_135 : decode cX7_pieceAt 135 = .ok (.iload 4, 2) := by decide +kernel
theorem dX7_pieceAt_137 : decode cX7_pieceAt 137 = .ok (.invokevirtual 170, 3) := by decide +kernel
theorem dX7_pieceAt_140 : decode cX7_pieceAt 140 = .ok (.ireturn, 1) := by decide +kernel
theorem dX7_pieceAt_141 : decode cX7_pieceAt 141 = .ok (.iload 4, 2) := by decide +kernel
theorem dX7_pieceAt_143 : decode cX7_pieceAt 143 = .ok (.iload 7, 2) := by decide +kernel
theorem dX7_pieceAt_145 : decode cX7_pieceAt 145 = .ok (.invokestatic 167, 3) := by decide +kernel
theorem dX7_pieceAt_148 : decode cX7_pieceAt 148 = .ok (.isub, 1) := by decide +kernel
theorem dX7_pieceAt_149 : decode cX7_pieceAt 149 = .ok (.istore 4, 2) := by decide +kernel
theorem dX7_pieceAt_151 : decode cX7_pieceAt 151 = .ok (.iinc 5 1, 3) := by decide +kernel
theorem dX7_pieceAt_154 : decode cX7_pieceAt 154 = .ok (.iinc 6 1, 3) := by decide +kernel
theorem dX7_pieceAt_157 : decode cX7_pieceAt 157 = .ok (.goto (-91), 3) := by decide +kernel
theorem dX7_pieceAt_160 : decode cX7_pieceAt 160 = .ok (.iload 5, 2) := by decide +kernel
theorem dX7_pieceAt_162 : decode cX7_pieceAt 162 = .ok (.aload_n 0, 1) := by decide +kernel
theorem dX7_pieceAt_163 : decode cX7_pieceAt 163 = .ok (.getfield 31, 3) := by decide +kernel
theorem dX7_pieceAt_166 : decode cX7_pieceAt 166 = .ok (.iload_n 2, 1) := by decide +kernel
theorem dX7_pieceAt_167 : decode cX7_pieceAt 167 = .ok (.iconst 1, 1) := by decide +kernel
theorem dX7_pieceAt_168 : decode cX7_pieceAt 168 = .ok (.iadd, 1) := by decide +kernel
theorem dX7_pieceAt_169 : decode cX7_pieceAt 169 = .ok (.iaload, 1) := by decide +kernel
theorem dX7_pieceAt_170 : decode cX7_pieceAt 170 = .ok (.if_icmp .ge 23, 3) := by decide +kernel
theorem dX7_pieceAt_173 : decode cX7_pieceAt 173 = .ok (.aload_n 0, 1) := by decide +kernel
theorem dX7_pieceAt_174 : decode cX7_pieceAt 174 = .ok (.aload_n 0, 1) := by decide +kernel
theorem dX7_pieceAt_175 : decode cX7_pieceAt 175 = .ok (.iload_n 1, 1) := by decide +kernel
theorem dX7_pieceAt_176 : decode cX7_pieceAt 176 = .ok (.sipush 241, 3) := by decide +kernel
theorem dX7_pieceAt_179 : decode cX7_pieceAt 179 = .ok (.iload 5, 2) := by decide +kernel
theorem dX7_pieceAt_181 : decode cX7_pieceAt 181 = .ok (.iadd, 1) := by decide +kernel
theorem dX7_pieceAt_182 : decode cX7_pieceAt 182 = .ok (.invokevirtual 60, 3) := by decide +kernel
theorem dX7_pieceAt_185 : decode cX7_pieceAt 185 = .ok (.iload 4, 2) := by decide +kernel
theorem dX7_pieceAt_187 : decode cX7_pieceAt 187 = .ok (.invokevirtual 170, 3) := by decide +kernel
theorem dX7_pieceAt_190 : decode cX7_pieceAt 190 = .ok (.goto 5, 3) := by decide +kernel
theorem dX7_pieceAt_193 : decode cX7_pieceAt 193 = .ok (.bipush (-5), 2) := by decide +kernel
theorem dX7_pieceAt_195 : decode cX7_pieceAt 195 = .ok (.ireturn, 1) := by decide +kernel
def rm_X7_pieceAt : Room := { frames := 5, cells := 0, slots := 0, locals := 114 }
set_option maxRecDepth 100000 in
set_option maxHeartbeats 4000000 in
theorem ok_X7_pieceAt_44 {E : Ev} {X : Xt} {l0 : Launch} {K : Int32 → Hp → Prop} (hC : Cx E X l0 RX7 cX7_pieceAt 8 rm_X7_pieceAt) (hQ : CQ E X "pieceAt" (some .int) rm_X7_pieceAt (KI K)) (h : Hp) (hV : V_X7_pieceAt_44 K  h) : WW E X h 0 0 44 [none, none, none, none, none, none, none, none] [] := by
  unfold V_X7_pieceAt_44 at hV
  refine r_bipush (v := (-5)) hC dX7_pieceAt_44 (by decide) ?_
  exact r_iret hC hQ dX7_pieceAt_46 (Nat.le_of_ble_eq_true rfl) (Nat.le_of_ble_eq_true rfl) ⟨_, rfl, hV⟩
set_option maxRecDepth 100000 in
set_option maxHeartbeats 4000000 in
theorem ok_X7_pieceAt_154 {E : Ev} {X : Xt} {l0 : Launch} {K : Int32 → Hp → Prop} {C66 : Nat → Int32 → Int32 → Int32 → Int32 → Int32 → Hp → Prop} (hC : Cx E X l0 RX7 cX7_pieceAt 8 rm_X7_pieceAt) (hQ : CQ E X "pieceAt" (some .int) rm_X7_pieceAt (KI K)) (hC66 : ∀ (a0 : Nat) (a1 : Int32) (a2 : Int32) (a4 : Int32) (a5 : Int32) (a6 : Int32) (h : Hp), C66 a0 a1 a2 a4 a5 a6 h → WW E X h 0 0 66 [some (rv a0), some (.int a1), some (.int a2), none, some (.int a4), some (.int a5), some (.int a6), none] []) (a0 : Nat) (a1 : Int32) (a2 : Int32) (a4 : Int32) (a5 : Int32) (a6 : Int32) (h : Hp) (hV : V_X7_pieceAt_154 K C66 a0 a1 a2 a4 a5 a6 h) : WW E X h 0 0 154 [some (rv a0), some (.int a1), some (.int a2), none, some (.int a4), some (.int a5), some (.int a6), none] [] := by
  unfold V_X7_pieceAt_154 at hV
  refine r_iinc (v := 1) (lo1 := [some (rv a0), some (.int a1), some (.int a2), none, some (.int a4), some (.int a5), some (.int (a6 + 1)), none]) hC dX7_pieceAt_154 rfl (by decide) rfl ?_
  refine r_goto (tgt := 66) hC dX7_pieceAt_157 (by decide) ?_
  exact hC66 a0 a1 a2 a4 a5 (a6 + 1) h hV
set_option maxRecDepth 100000 in
set_option maxHeartbeats 4000000 in
theorem ok_X7_pieceAt_195 {E : Ev} {X : Xt} {l0 : Launch} {K : Int32 → Hp → Prop} (hC : Cx E X l0 RX7 cX7_pieceAt 8 rm_X7_pieceAt) (hQ : CQ E X "pieceAt" (some .int) rm_X7_pieceAt (KI K)) (s0 : Int32) (h : Hp) (hV : V_X7_pieceAt_195 K s0 h) : WW E X h 0 0 195 [none, none, none, none, none, none, none, none] [.int s0] := by
  unfold V_X7_pieceAt_195 at hV
  exact r_iret hC hQ dX7_pieceAt_195 (Nat.le_of_ble_eq_true rfl) (Nat.le_of_ble_eq_true rfl) ⟨_, rfl, hV⟩
set_option maxRecDepth 100000 in
set_option maxHeartbeats 4000000 in
theorem ok_X7_pieceAt_66 {E : Ev} {X : Xt} {l0 : Launch} {K : Int32 → Hp → Prop} (hC : Cx E X l0 RX7 cX7_pieceAt 8 rm_X7_pieceAt) (hQ : CQ E X "pieceAt" (some .int) rm_X7_pieceAt (KI K)) : ∀ (n : Nat) (a0 : Nat) (a1 : Int32) (a2 : Int32) (a4 : Int32) (a5 : Int32) (a6 : Int32) (h : Hp), V_X7_pieceAt_66 K n a0 a1 a2 a4 a5 a6 h → WW E X h 0 0 66 [some (rv a0), some (.int a1), some (.int a2), none, some (.int a4), some (.int a5), some (.int a6), none] [] := by
  intro n
  induction n with
  | zero => intro a0 a1 a2 a4 a5 a6 h hV; exact hV.elim
  | succ n ih =>
    intro a0 a1 a2 a4 a5 a6 h hV
    unfold V_X7_pieceAt_66 at hV
    refine r_iload hC dX7_pieceAt_66 rfl ?_
    refine r_aload_n hC dX7_pieceAt_68 rfl ?_
    obtain ⟨k9, hV⟩ := hV
    refine r_getR hC dX7_pieceAt_69 fl_7_28 rf_7_13 lq_7 k9 ?_
    refine r_iload_n hC dX7_pieceAt_72 rfl ?_
    obtain ⟨k9, k8, hV⟩ := hV
    refine r_iald (kd := 73) hC dX7_pieceAt_73 (by decide) rfl k9 k8 ?_
    refine r_icmp_ge (tgt := 160) hC dX7_pieceAt_74 (by decide) (fun k9 => ?_) (fun k9 => ?_)
    · replace hV := hV.1 k9
      refine r_iload hC dX7_pieceAt_160 rfl ?_
      refine r_aload_n hC dX7_pieceAt_162 rfl ?_
      obtain ⟨k9, hV⟩ := hV
      refine r_getR hC dX7_pieceAt_163 fl_7_31 rf_7_14 lq_7 k9 ?_
      refine r_iload_n hC dX7_pieceAt_166 rfl ?_
      refine r_iconst (v := 1) hC dX7_pieceAt_167 (by decide) ?_
      refine r_iadd hC dX7_pieceAt_168 ?_
      obtain ⟨k9, k8, hV⟩ := hV
      refine r_iald (kd := 74) hC dX7_pieceAt_169 (by decide) rfl k9 k8 ?_
      refine r_icmp_ge (tgt := 193) hC dX7_pieceAt_170 (by decide) (fun k9 => ?_) (fun k9 => ?_)
      · replace hV := hV.1 k9
        refine r_bipush (v := (-5)) hC dX7_pieceAt_193 (by decide) ?_
        refine r_sub (lo1 := [none, none, none, none, none, none, none, none]) ⟨Or.inl rfl, ⟨Or.inl rfl, ⟨Or.inl rfl, ⟨Or.inl rfl, ⟨Or.inl rfl, ⟨Or.inl rfl, ⟨Or.inl rfl, ⟨Or.inl rfl, trivial⟩⟩⟩⟩⟩⟩⟩⟩ ?_
        exact ok_X7_pieceAt_195 hC hQ (-5) h hV
      · replace hV := hV.2 k9
        refine r_aload_n hC dX7_pieceAt_173 rfl ?_
        refine r_aload_n hC dX7_pieceAt_174 rfl ?_
        refine r_iload_n hC dX7_pieceAt_175 rfl ?_
        refine r_sipush (v := 241) hC dX7_pieceAt_176 (by decide) ?_
        refine r_iload hC dX7_pieceAt_179 rfl ?_
        refine r_iadd hC dX7_pieceAt_181 ?_
        obtain ⟨k9, hV⟩ := hV
        refine r_callV (ci := 7) (As := [.int a1, .int (241 + a5)]) hC dX7_pieceAt_182 rfl cf_X7_ofJob ml_7_60 im_X7_ofJob sl_X7_ofJob lq_7 rfl rfl k9 rfl ⟨Nat.le_of_ble_eq_true rfl, Nat.le_of_ble_eq_true rfl, Nat.le_of_ble_eq_true rfl, Nat.le_of_ble_eq_true rfl⟩ (csR cs0) (Nat.le_of_ble_eq_true rfl) (con_X7_ofJob a0 a1 (241 + a5) h _ hV) rfl (kI (k := 0) (n := 0) (fun r1 h1 hV => ?_))
        refine r_iload hC dX7_pieceAt_185 rfl ?_
        obtain ⟨k9, hV⟩ := hV
        refine r_callV (ci := 7) (As := [.int r1, .int a4]) hC dX7_pieceAt_187 rfl cf_X7_spaceAt ml_7_170 im_X7_spaceAt sl_X7_spaceAt lq_7 rfl rfl k9 rfl ⟨Nat.le_of_ble_eq_true rfl, Nat.le_of_ble_eq_true rfl, Nat.le_of_ble_eq_true rfl, Nat.le_of_ble_eq_true rfl⟩ cs0 (Nat.le_of_ble_eq_true rfl) (con_X7_spaceAt a0 r1 a4 h1 _ hV) rfl (kI (k := 0) (n := 0) (fun r2 h2 hV => ?_))
        refine r_goto (tgt := 195) hC dX7_pieceAt_190 (by decide) ?_
        refine r_sub (lo1 := [none, none, none, none, none, none, none, none]) ⟨Or.inl rfl, ⟨Or.inl rfl, ⟨Or.inl rfl, ⟨Or.inl rfl, ⟨Or.inl rfl, ⟨Or.inl rfl, ⟨Or.inl rfl, ⟨Or.inl rfl, trivial⟩⟩⟩⟩⟩⟩⟩⟩ ?_
        exact ok_X7_pieceAt_195 hC hQ r2 h2 hV
    · replace hV := hV.2 k9
      refine r_aload_n hC dX7_pieceAt_77 rfl ?_
      obtain ⟨k9, hV⟩ := hV
      refine r_getR hC dX7_pieceAt_78 fl_7_22 rf_7_8 lq_7 k9 ?_
      refine r_iload hC dX7_pieceAt_81 rfl ?_
      obtain ⟨k9, k8, hV⟩ := hV
      refine r_iald (kd := 68) hC dX7_pieceAt_83 (by decide) rfl k9 k8 ?_
      refine r_callS (As := [.int (hI h (hR h a0 8) (ix a6))]) hC dX7_pieceAt_84 rfl cf_X7_isLetter ml_7_96 st_X7_isLetter rfl ⟨Nat.le_of_ble_eq_true rfl, Nat.le_of_ble_eq_true rfl, Nat.le_of_ble_eq_true rfl, Nat.le_of_ble_eq_true rfl⟩ cs0 (Nat.le_of_ble_eq_true rfl) (con_X7_isLetter (hI h (hR h a0 8) (ix a6)) h _ hV) rfl (kI (k := 0) (n := 0) (fun r1 h1 hV => ?_))
      refine r_if_eq (tgt := 109) hC dX7_pieceAt_87 (by decide) (fun k9 => ?_) (fun k9 => ?_)
      · replace hV := hV.1 k9
        refine r_aload_n hC dX7_pieceAt_109 rfl ?_
        refine r_iload_n hC dX7_pieceAt_110 rfl ?_
        refine r_sipush (v := 241) hC dX7_pieceAt_111 (by decide) ?_
        refine r_iload hC dX7_pieceAt_114 rfl ?_
        refine r_iadd hC dX7_pieceAt_116 ?_
        obtain ⟨k9, hV⟩ := hV
        refine r_callV (ci := 7) (As := [.int a1, .int (241 + a5)]) hC dX7_pieceAt_117 rfl cf_X7_ofJob ml_7_60 im_X7_ofJob sl_X7_ofJob lq_7 rfl rfl k9 rfl ⟨Nat.le_of_ble_eq_true rfl, Nat.le_of_ble_eq_true rfl, Nat.le_of_ble_eq_true rfl, Nat.le_of_ble_eq_true rfl⟩ cs0 (Nat.le_of_ble_eq_true rfl) (con_X7_ofJob a0 a1 (241 + a5) h1 _ hV) rfl (kI (k := 0) (n := 0) (fun r2 h2 hV => ?_))
        refine r_istore (lo1 := [some (rv a0), some (.int a1), some (.int a2), none, some (.int a4), some (.int a5), some (.int a6), some (.int r2)]) hC dX7_pieceAt_120 (Nat.le_of_ble_eq_true rfl) rfl ?_
        refine r_iload hC dX7_pieceAt_122 rfl ?_
        refine r_iload hC dX7_pieceAt_124 rfl ?_
        refine r_callS (As := [.int r2]) hC dX7_pieceAt_126 rfl cf_X7_spaces ml_7_167 st_X7_spaces rfl ⟨Nat.le_of_ble_eq_true rfl, Nat.le_of_ble_eq_true rfl, Nat.le_of_ble_eq_true rfl, Nat.le_of_ble_eq_true rfl⟩ (csI cs0) (Nat.le_of_ble_eq_true rfl) (con_X7_spaces r2 h2 _ hV) rfl (kI (k := 0) (n := 0) (fun r3 h3 hV => ?_))
        refine r_icmp_ge (tgt := 141) hC dX7_pieceAt_129 (by decide) (fun k9 => ?_) (fun k9 => ?_)
        · replace hV := hV.1 k9
          refine r_iload hC dX7_pieceAt_141 rfl ?_
          refine r_iload hC dX7_pieceAt_143 rfl ?_
          refine r_callS (As := [.int r2]) hC dX7_pieceAt_145 rfl cf_X7_spaces ml_7_167 st_X7_spaces rfl ⟨Nat.le_of_ble_eq_true rfl, Nat.le_of_ble_eq_true rfl, Nat.le_of_ble_eq_true rfl, Nat.le_of_ble_eq_true rfl⟩ (csI cs0) (Nat.le_of_ble_eq_true rfl) (con_X7_spaces r2 h3 _ hV) rfl (kI (k := 0) (n := 0) (fun r4 h4 hV => ?_))
          refine r_isub hC dX7_pieceAt_148 ?_
          refine r_istore (lo1 := [some (rv a0), some (.int a1), some (.int a2), none, some (.int (a4 - r4)), some (.int a5), some (.int a6), some (.int r2)]) hC dX7_pieceAt_149 (Nat.le_of_ble_eq_true rfl) rfl ?_
          refine r_iinc (v := 1) (lo1 := [some (rv a0), some (.int a1), some (.int a2), none, some (.int (a4 - r4)), some (.int (a5 + 1)), some (.int a6), some (.int r2)]) hC dX7_pieceAt_151 rfl (by decide) rfl ?_
          refine r_sub (lo1 := [some (rv a0), some (.int a1), some (.int a2), none, some (.int (a4 - r4)), some (.int (a5 + 1)), some (.int a6), none]) ⟨Or.inr rfl, ⟨Or.inr rfl, ⟨Or.inr rfl, ⟨Or.inl rfl, ⟨Or.inr rfl, ⟨Or.inr rfl, ⟨Or.inr rfl, ⟨Or.inl rfl, trivial⟩⟩⟩⟩⟩⟩⟩⟩ ?_
          exact ok_X7_pieceAt_154 hC hQ ih a0 a1 a2 (a4 - r4) (a5 + 1) a6 h4 hV
        · replace hV := hV.2 k9
          refine r_aload_n hC dX7_pieceAt_132 rfl ?_
          refine r_iload hC dX7_pieceAt_133 rfl ?_
          refine r_iload hC dX7_pieceAt_135 rfl ?_
          obtain ⟨k9, hV⟩ := hV
          refine r_callV (ci := 7) (As := [.int r2, .int a4]) hC dX7_pieceAt_137 rfl cf_X7_spaceAt ml_7_170 im_X7_spaceAt sl_X7_spaceAt lq_7 rfl rfl k9 rfl ⟨Nat.le_of_ble_eq_true rfl, Nat.le_of_ble_eq_true rfl, Nat.le_of_ble_eq_true rfl, Nat.le_of_ble_eq_true rfl⟩ cs0 (Nat.le_of_ble_eq_true rfl) (con_X7_spaceAt a0 r2 a4 h3 _ hV) rfl (kI (k := 0) (n := 0) (fun r4 h4 hV => ?_))
          exact r_iret hC hQ dX7_pieceAt_140 (Nat.le_of_ble_eq_true rfl) (Nat.le_of_ble_eq_true rfl) ⟨_, rfl, hV⟩
      · replace hV := hV.2 k9
        refine r_iload hC dX7_pieceAt_90 rfl ?_
        refine r_if_ne (tgt := 103) hC dX7_pieceAt_92 (by decide) (fun k9 => ?_) (fun k9 => ?_)
        · replace hV := hV.1 k9
          refine r_iinc (v := (-1)) (lo1 := [some (rv a0), some (.int a1), some (.int a2), none, some (.int (a4 + (-1))), some (.int a5), some (.int a6), none]) hC dX7_pieceAt_103 rfl (by decide) rfl ?_
          refine r_goto (tgt := 154) hC dX7_pieceAt_106 (by decide) ?_
          exact ok_X7_pieceAt_154 hC hQ ih a0 a1 a2 (a4 + (-1)) a5 a6 h1 hV
        · replace hV := hV.2 k9
          refine r_aload_n hC dX7_pieceAt_95 rfl ?_
          obtain ⟨k9, hV⟩ := hV
          refine r_getR hC dX7_pieceAt_96 fl_7_22 rf_7_8 lq_7 k9 ?_
          refine r_iload hC dX7_pieceAt_99 rfl ?_
          obtain ⟨k9, k8, hV⟩ := hV
          refine r_iald (kd := 68) hC dX7_pieceAt_101 (by decide) rfl k9 k8 ?_
          exact r_iret hC hQ dX7_pieceAt_102 (Nat.le_of_ble_eq_true rfl) (Nat.le_of_ble_eq_true rfl) ⟨_, rfl, hV⟩
set_option maxRecDepth 100000 in
set_option maxHeartbeats 4000000 in
theorem ok_X7_pieceAt_0 {E : Ev} {X : Xt} {l0 : Launch} {K : Int32 → Hp → Prop} (hC : Cx E X l0 RX7 cX7_pieceAt 8 rm_X7_pieceAt) (hQ : CQ E X "pieceAt" (some .int) rm_X7_pieceAt (KI K)) (a0 : Nat) (a1 : Int32) (a2 : Int32) (a3 : Int32) (h : Hp) (hV : V_X7_pieceAt a0 a1 a2 a3 h K) : WW E X h 0 0 0 [some (rv a0), some (.int a1), some (.int a2), some (.int a3), none, none, none, none] [] := by
  unfold V_X7_pieceAt at hV
  refine r_aload_n hC dX7_pieceAt_0 rfl ?_
  refine r_iload_n hC dX7_pieceAt_1 rfl ?_
  obtain ⟨k9, hV⟩ := hV
  refine r_callV (ci := 7) (As := [.int a1]) hC dX7_pieceAt_2 rfl cf_X7_noJob ml_7_144 im_X7_noJob sl_X7_noJob lq_7 rfl rfl k9 rfl ⟨Nat.le_of_ble_eq_true rfl, Nat.le_of_ble_eq_true rfl, Nat.le_of_ble_eq_true rfl, Nat.le_of_ble_eq_true rfl⟩ cs0 (Nat.le_of_ble_eq_true rfl) (con_X7_noJob a0 a1 h _ hV) rfl (kI (k := 0) (n := 0) (fun r1 h1 hV => ?_))
  refine r_if_eq (tgt := 10) hC dX7_pieceAt_5 (by decide) (fun k9 => ?_) (fun k9 => ?_)
  · replace hV := hV.1 k9
    refine r_aload_n hC dX7_pieceAt_10 rfl ?_
    refine r_iload_n hC dX7_pieceAt_11 rfl ?_
    obtain ⟨k9, hV⟩ := hV
    refine r_callV (ci := 7) (As := [.int a1]) hC dX7_pieceAt_12 rfl cf_X7_hasForme ml_7_125 im_X7_hasForme sl_X7_hasForme lq_7 rfl rfl k9 rfl ⟨Nat.le_of_ble_eq_true rfl, Nat.le_of_ble_eq_true rfl, Nat.le_of_ble_eq_true rfl, Nat.le_of_ble_eq_true rfl⟩ cs0 (Nat.le_of_ble_eq_true rfl) (con_X7_hasForme a0 a1 h1 _ hV) rfl (kI (k := 0) (n := 0) (fun r2 h2 hV => ?_))
    refine r_if_ne (tgt := 21) hC dX7_pieceAt_15 (by decide) (fun k9 => ?_) (fun k9 => ?_)
    · replace hV := hV.1 k9
      refine r_aload_n hC dX7_pieceAt_21 rfl ?_
      refine r_iload_n hC dX7_pieceAt_22 rfl ?_
      obtain ⟨k9, hV⟩ := hV
      refine r_callV (ci := 7) (As := [.int a1]) hC dX7_pieceAt_23 rfl cf_X7_layJob ml_7_122 im_X7_layJob sl_X7_layJob lq_7 rfl rfl k9 rfl ⟨Nat.le_of_ble_eq_true rfl, Nat.le_of_ble_eq_true rfl, Nat.le_of_ble_eq_true rfl, Nat.le_of_ble_eq_true rfl⟩ cs0 (Nat.le_of_ble_eq_true rfl) (con_X7_layJob a0 a1 h2 _ hV) rfl (kV (k := 0) (n := 0) (fun h3 hV => ?_))
      refine r_iload_n hC dX7_pieceAt_26 rfl ?_
      refine r_iconst (v := 0) hC dX7_pieceAt_27 (by decide) ?_
      refine r_aload_n hC dX7_pieceAt_28 rfl ?_
      obtain ⟨k9, hV⟩ := hV
      refine r_getI hC dX7_pieceAt_29 fl_7_106 rf_7_9 lq_7 k9 ?_
      refine r_iconst (v := 1) hC dX7_pieceAt_32 (by decide) ?_
      refine r_isub hC dX7_pieceAt_33 ?_
      refine r_callS (As := [.int a2, .int 0, .int ((hI h3 a0 9) - 1)]) hC dX7_pieceAt_34 rfl cf_X7_in ml_7_56 st_X7_in rfl ⟨Nat.le_of_ble_eq_true rfl, Nat.le_of_ble_eq_true rfl, Nat.le_of_ble_eq_true rfl, Nat.le_of_ble_eq_true rfl⟩ cs0 (Nat.le_of_ble_eq_true rfl) (con_X7_in a2 0 ((hI h3 a0 9) - 1) h3 _ hV) rfl (kI (k := 0) (n := 0) (fun r3 h4 hV => ?_))
      refine r_if_eq (tgt := 44) hC dX7_pieceAt_37 (by decide) (fun k9 => ?_) (fun k9 => ?_)
      · replace hV := hV.1 k9
        refine r_sub (lo1 := [none, none, none, none, none, none, none, none]) ⟨Or.inl rfl, ⟨Or.inl rfl, ⟨Or.inl rfl, ⟨Or.inl rfl, ⟨Or.inl rfl, ⟨Or.inl rfl, ⟨Or.inl rfl, ⟨Or.inl rfl, trivial⟩⟩⟩⟩⟩⟩⟩⟩ ?_
        exact ok_X7_pieceAt_44 hC hQ  h4 hV
      · replace hV := hV.2 k9
        refine r_iload_n hC dX7_pieceAt_40 rfl ?_
        refine r_if_ge (tgt := 47) hC dX7_pieceAt_41 (by decide) (fun k9 => ?_) (fun k9 => ?_)
        · replace hV := hV.1 k9
          refine r_iload_n hC dX7_pieceAt_47 rfl ?_
          refine r_istore (lo1 := [some (rv a0), some (.int a1), some (.int a2), some (.int a3), some (.int a3), none, none, none]) hC dX7_pieceAt_48 (Nat.le_of_ble_eq_true rfl) rfl ?_
          refine r_aload_n hC dX7_pieceAt_50 rfl ?_
          obtain ⟨k9, hV⟩ := hV
          refine r_getR hC dX7_pieceAt_51 fl_7_31 rf_7_14 lq_7 k9 ?_
          refine r_iload_n hC dX7_pieceAt_54 rfl ?_
          obtain ⟨k9, k8, hV⟩ := hV
          refine r_iald (kd := 74) hC dX7_pieceAt_55 (by decide) rfl k9 k8 ?_
          refine r_istore (lo1 := [some (rv a0), some (.int a1), some (.int a2), some (.int a3), some (.int a3), some (.int (hI h4 (hR h4 a0 14) (ix a2))), none, none]) hC dX7_pieceAt_56 (Nat.le_of_ble_eq_true rfl) rfl ?_
          refine r_aload_n hC dX7_pieceAt_58 rfl ?_
          obtain ⟨k9, hV⟩ := hV
          refine r_getR hC dX7_pieceAt_59 fl_7_25 rf_7_12 lq_7 k9 ?_
          refine r_iload_n hC dX7_pieceAt_62 rfl ?_
          obtain ⟨k9, k8, hV⟩ := hV
          refine r_iald (kd := 72) hC dX7_pieceAt_63 (by decide) rfl k9 k8 ?_
          refine r_istore (lo1 := [some (rv a0), some (.int a1), some (.int a2), some (.int a3), some (.int a3), some (.int (hI h4 (hR h4 a0 14) (ix a2))), some (.int (hI h4 (hR h4 a0 12) (ix a2))), none]) hC dX7_pieceAt_64 (Nat.le_of_ble_eq_true rfl) rfl ?_
          refine r_sub (lo1 := [some (rv a0), some (.int a1), some (.int a2), none, some (.int a3), some (.int (hI h4 (hR h4 a0 14) (ix a2))), some (.int (hI h4 (hR h4 a0 12) (ix a2))), none]) ⟨Or.inr rfl, ⟨Or.inr rfl, ⟨Or.inr rfl, ⟨Or.inl rfl, ⟨Or.inr rfl, ⟨Or.inr rfl, ⟨Or.inr rfl, ⟨Or.inl rfl, trivial⟩⟩⟩⟩⟩⟩⟩⟩ ?_
          obtain ⟨n9, hV⟩ := hV
          exact ok_X7_pieceAt_66 hC hQ n9 a0 a1 a2 a3 (hI h4 (hR h4 a0 14) (ix a2)) (hI h4 (hR h4 a0 12) (ix a2)) h4 hV
        · replace hV := hV.2 k9
          refine r_sub (lo1 := [none, none, none, none, none, none, none, none]) ⟨Or.inl rfl, ⟨Or.inl rfl, ⟨Or.inl rfl, ⟨Or.inl rfl, ⟨Or.inl rfl, ⟨Or.inl rfl, ⟨Or.inl rfl, ⟨Or.inl rfl, trivial⟩⟩⟩⟩⟩⟩⟩⟩ ?_
          exact ok_X7_pieceAt_44 hC hQ  h4 hV
    · replace hV := hV.2 k9
      refine r_bipush (v := (-4)) hC dX7_pieceAt_18 (by decide) ?_
      exact r_iret hC hQ dX7_pieceAt_20 (Nat.le_of_ble_eq_true rfl) (Nat.le_of_ble_eq_true rfl) ⟨_, rfl, hV⟩
  · replace hV := hV.2 k9
    refine r_iconst (v := (-1)) hC dX7_pieceAt_8 (by decide) ?_
    exact r_iret hC hQ dX7_pieceAt_9 (Nat.le_of_ble_eq_true rfl) (Nat.le_of_ble_eq_true rfl) ⟨_, rfl, hV⟩
set_option maxRecDepth 100000 in
set_option maxHeartbeats 4000000 in
theorem con_X7_pieceAt {E : Ev} {l0 : Launch} (a0 : Nat) (a1 : Int32) (a2 : Int32) (a3 : Int32) (h : Hp) (K : Int32 → Hp → Prop) (hV : V_X7_pieceAt a0 a1 a2 a3 h K) : Con E l0 yX7_pieceAt cX7_pieceAt 8 (some .int) rm_X7_pieceAt [rv a0, .int a1, .int a2, .int a3] h (KI K) := by
  refine Con.of (by decide +kernel) (cat_R (cat_I (cat_I (cat_I cat_nil)))) (Nat.le_of_ble_eq_true rfl) (fun X hC hQ => ?_)
  refine r_sub (lo1 := [some (rv a0), some (.int a1), some (.int a2), some (.int a3), none, none, none, none]) (show lsub [some (rv a0), some (.int a1), some (.int a2), some (.int a3), none, none, none, none] _ from ⟨Or.inr rfl, ⟨Or.inr rfl, ⟨Or.inr rfl, ⟨Or.inr rfl, ⟨Or.inr rfl, ⟨Or.inr rfl, ⟨Or.inr rfl, ⟨Or.inr rfl, trivial⟩⟩⟩⟩⟩⟩⟩⟩) ?_
  exact ok_X7_pieceAt_0 hC hQ a0 a1 a2 a3 h hV
theorem dX7_pieces_0 : decode cX7_pieces 0 = .ok (.iload_n 2, 1) := by decide +kernel
theorem dX7_pieces_1 : decode cX7_pieces 1 = .ok (.invokestatic 76, 3) := by decide +kernel
theorem dX7_pieces_4 : decode cX7_pieces 4 = .ok (.ifCond .ne 16, 3) := by decide +kernel
theorem dX7_pieces_7 : decode cX7_pieces 7 = .ok (.iload_n 1, 1) := by decide +kernel
theorem dX7_pieces_8 : decode cX7_pieces 8 = .ok (.iconst (-1), 1) := by decide +kernel
theorem dX7_pieces_9 : decode cX7_pieces 9 = .ok (.if_icmp .eq 13, 3) := by decide +kernel
theorem dX7_pieces_12 : decode cX7_pieces 12 = .ok (.aload_n 0, 1) := by decide +kernel
theorem dX7_pieces_13 : decode cX7_pieces 13 = .ok (.iload_n 1, 1) := by decide +kernel
theorem dX7_pieces_14 : decode cX7_pieces 14 = .ok (.invokevirtual 72, 3) := by decide +kernel
theorem dX7_pieces_17 : decode cX7_pieces 17 = .ok (.ifCond .eq 5, 3) := by decide +kernel
theorem dX7_pieces_20 : decode cX7_pieces 20 = .ok (.iconst (-1), 1) := by decide +kernel
theorem dX7_pieces_21 : decode cX7_pieces 21 = .ok (.ireturn, 1) := by decide +kernel
theorem dX7_pieces_22 : decode cX7_pieces 22 = .ok (.iload_n 1, 1) := by decide +kernel
theorem dX7_pieces_23 : decode cX7_pieces 23 = .ok (.iconst (-1), 1) := by decide +kernel
theorem dX7_pieces_24 : decode cX7_pieces 24 = .ok (.if_icmp .ne 16, 3) := by decide +kernel
theorem dX7_pieces_27 : decode cX7_pieces 27 = .ok (.aload_n 0, 1) := by decide +kernel
theorem dX7_pieces_28 : decode cX7_pieces 28 = .ok (.getfield 7, 3) := by decide +kernel
theorem dX7_pieces_31 : decode cX7_pieces 31 = .ok (.sipush 182, 3) := by decide +kernel
theorem dX7_pieces_34 : decode cX7_pieces 34 = .ok (.iload_n 2, 1) := by decide +kernel
theorem dX7_pieces_35 : decode cX7_pieces 35 = .ok (.iadd, 1) := by decide +kernel
theorem dX7_pieces_36 : decode cX7_pieces 36 = .ok (.iaload, 1) := by decide +kernel
theorem dX7_pieces_37 : decode cX7_pieces 37 = .ok (.goto 9, 3) := by decide +kernel
theorem dX7_pieces_40 : decode cX7_pieces 40 = .ok (.aload_n 0, 1) := by decide +kernel
theorem dX7_pieces_41 : decode cX7_pieces 41 = .ok (.iload_n 1, 1) := by decide +kernel
theorem dX7_pieces_42 : decode cX7_pieces 42 = .ok (.iload_n 2, 1) := by decide +kernel
theorem dX7_pieces_43 : decode cX7_pieces 43 = .ok (.invokevirtual 79, 3) := by decide +kernel
theorem dX7_pieces_46 : decode cX7_pieces 46 = .ok (.ireturn, 1) := by decide +kernel
def rm_X7_pieces : Room := { frames := 2, cells := 0, slots := 0, locals := 43 }
set_option maxRecDepth 100000 in
set_option maxHeartbeats 4000000 in
theorem ok_X7_pieces_20 {E : Ev} {X : Xt} {l0 : Launch} {K : Int32 → Hp → Prop} (hC : Cx E X l0 RX7 cX7_pieces 3 rm_X7_pieces) (hQ : CQ E X "pieces" (some .int) rm_X7_pieces (KI K)) (h : Hp) (hV : V_X7_pieces_20 K  h) : WW E X h 0 0 20 [none, none, none] [] := by
  unfold V_X7_pieces_20 at hV
  refine r_iconst (v := (-1)) hC dX7_pieces_20 (by decide) ?_
  exact r_iret hC hQ dX7_pieces_21 (Nat.le_of_ble_eq_true rfl) (Nat.le_of_ble_eq_true rfl) ⟨_, rfl, hV⟩
set_option maxRecDepth 100000 in
set_option maxHeartbeats 4000000 in
theorem ok_X7_pieces_46 {E : Ev} {X : Xt} {l0 : Launch} {K : Int32 → Hp → Prop} (hC : Cx E X l0 RX7 cX7_pieces 3 rm_X7_pieces) (hQ : CQ E X "pieces" (some .int) rm_X7_pieces (KI K)) (s0 : Int32) (h : Hp) (hV : V_X7_pieces_46 K s0 h) : WW E X h 0 0 46 [none, none, none] [.int s0] := by
  unfold V_X7_pieces_46 at hV
  exact r_iret hC hQ dX7_pieces_46 (Nat.le_of_ble_eq_true rfl) (Nat.le_of_ble_eq_true rfl) ⟨_, rfl, hV⟩
set_option maxRecDepth 100000 in
set_option maxHeartbeats 4000000 in
theorem ok_X7_pieces_22 {E : Ev} {X : Xt} {l0 : Launch} {K : Int32 → Hp → Prop} (hC : Cx E X l0 RX7 cX7_pieces 3 rm_X7_pieces) (hQ : CQ E X "pieces" (some .int) rm_X7_pieces (KI K)) (a0 : Nat) (a1 : Int32) (a2 : Int32) (h : Hp) (hV : V_X7_pieces_22 K a0 a1 a2 h) : WW E X h 0 0 22 [some (rv a0), some (.int a1), some (.int a2)] [] := by
  unfold V_X7_pieces_22 at hV
  refine r_iload_n hC dX7_pieces_22 rfl ?_
  refine r_iconst (v := (-1)) hC dX7_pieces_23 (by decide) ?_
  refine r_icmp_ne (tgt := 40) hC dX7_pieces_24 (by decide) (fun k9 => ?_) (fun k9 => ?_)
  · replace hV := hV.1 k9
    refine r_aload_n hC dX7_pieces_40 rfl ?_
    refine r_iload_n hC dX7_pieces_41 rfl ?_
    refine r_iload_n hC dX7_pieces_42 rfl ?_
    obtain ⟨k9, hV⟩ := hV
    refine r_callV (ci := 7) (As := [.int a1, .int a2]) hC dX7_pieces_43 rfl cf_X7_has ml_7_79 im_X7_has sl_X7_has lq_7 rfl rfl k9 rfl ⟨Nat.le_of_ble_eq_true rfl, Nat.le_of_ble_eq_true rfl, Nat.le_of_ble_eq_true rfl, Nat.le_of_ble_eq_true rfl⟩ cs0 (Nat.le_of_ble_eq_true rfl) (con_X7_has a0 a1 a2 h _ hV) rfl (kI (k := 0) (n := 0) (fun r1 h1 hV => ?_))
    refine r_sub (lo1 := [none, none, none]) ⟨Or.inl rfl, ⟨Or.inl rfl, ⟨Or.inl rfl, trivial⟩⟩⟩ ?_
    exact ok_X7_pieces_46 hC hQ r1 h1 hV
  · replace hV := hV.2 k9
    refine r_aload_n hC dX7_pieces_27 rfl ?_
    obtain ⟨k9, hV⟩ := hV
    refine r_getR hC dX7_pieces_28 fl_7_7 rf_7_0 lq_7 k9 ?_
    refine r_sipush (v := 182) hC dX7_pieces_31 (by decide) ?_
    refine r_iload_n hC dX7_pieces_34 rfl ?_
    refine r_iadd hC dX7_pieces_35 ?_
    obtain ⟨k9, k8, hV⟩ := hV
    refine r_iald (kd := 60) hC dX7_pieces_36 (by decide) rfl k9 k8 ?_
    refine r_goto (tgt := 46) hC dX7_pieces_37 (by decide) ?_
    refine r_sub (lo1 := [none, none, none]) ⟨Or.inl rfl, ⟨Or.inl rfl, ⟨Or.inl rfl, trivial⟩⟩⟩ ?_
    exact ok_X7_pieces_46 hC hQ (hI h (hR h a0 0) (ix (182 + a2))) h hV
set_option maxRecDepth 100000 in
set_option maxHeartbeats 4000000 in
theorem ok_X7_pieces_0 {E : Ev} {X : Xt} {l0 : Launch} {K : Int32 → Hp → Prop} (hC : Cx E X l0 RX7 cX7_pieces 3 rm_X7_pieces) (hQ : CQ E X "pieces" (some .int) rm_X7_pieces (KI K)) (a0 : Nat) (a1 : Int32) (a2 : Int32) (h : Hp) (hV : V_X7_pieces a0 a1 a2 h K) : WW E X h 0 0 0 [some (rv a0), some (.int a1), some (.int a2)] [] := by
  unfold V_X7_pieces at hV
  refine r_iload_n hC dX7_pieces_0 rfl ?_
  refine r_callS (As := [.int a2]) hC dX7_pieces_1 rfl cf_X7_noSort ml_7_76 st_X7_noSort rfl ⟨Nat.le_of_ble_eq_true rfl, Nat.le_of_ble_eq_true rfl, Nat.le_of_ble_eq_true rfl, Nat.le_of_ble_eq_true rfl⟩ cs0 (Nat.le_of_ble_eq_true rfl) (con_X7_noSort a2 h _ hV) rfl (kI (k := 0) (n := 0) (fun r1 h1 hV => ?_))
  refine r_if_ne (tgt := 20) hC dX7_pieces_4 (by decide) (fun k9 => ?_) (fun k9 => ?_)
  · replace hV := hV.1 k9
    refine r_sub (lo1 := [none, none, none]) ⟨Or.inl rfl, ⟨Or.inl rfl, ⟨Or.inl rfl, trivial⟩⟩⟩ ?_
    exact ok_X7_pieces_20 hC hQ  h1 hV
  · replace hV := hV.2 k9
    refine r_iload_n hC dX7_pieces_7 rfl ?_
    refine r_iconst (v := (-1)) hC dX7_pieces_8 (by decide) ?_
    refine r_icmp_eq (tgt := 22) hC dX7_pieces_9 (by decide) (fun k9 => ?_) (fun k9 => ?_)
    · replace hV := hV.1 k9
      exact ok_X7_pieces_22 hC hQ a0 a1 a2 h1 hV
    · replace hV := hV.2 k9
      refine r_aload_n hC dX7_pieces_12 rfl ?_
      refine r_iload_n hC dX7_pieces_13 rfl ?_
      obtain ⟨k9, hV⟩ := hV
      refine r_callV (ci := 7) (As := [.int a1]) hC dX7_pieces_14 rfl cf_X7_noCase ml_7_72 im_X7_noCase sl_X7_noCase lq_7 rfl rfl k9 rfl ⟨Nat.le_of_ble_eq_true rfl, Nat.le_of_ble_eq_true rfl, Nat.le_of_ble_eq_true rfl, Nat.le_of_ble_eq_true rfl⟩ cs0 (Nat.le_of_ble_eq_true rfl) (con_X7_noCase a0 a1 h1 _ hV) rfl (kI (k := 0) (n := 0) (fun r2 h2 hV => ?_))
      refine r_if_eq (tgt := 22) hC dX7_pieces_17 (by decide) (fun k9 => ?_) (fun k9 => ?_)
      · replace hV := hV.1 k9
        exact ok_X7_pieces_22 hC hQ a0 a1 a2 h2 hV
      · replace hV := hV.2 k9
        refine r_sub (lo1 := [none, none, none]) ⟨Or.inl rfl, ⟨Or.inl rfl, ⟨Or.inl rfl, trivial⟩⟩⟩ ?_
        exact ok_X7_pieces_20 hC hQ  h2 hV
set_option maxRecDepth 100000 in
set_option maxHeartbeats 4000000 in
theorem con_X7_pieces {E : Ev} {l0 : Launch} (a0 : Nat) (a1 : Int32) (a2 : Int32) (h : Hp) (K : Int32 → Hp → Prop) (hV : V_X7_pieces a0 a1 a2 h K) : Con E l0 yX7_pieces cX7_pieces 3 (some .int) rm_X7_pieces [rv a0, .int a1, .int a2] h (KI K) := by
  refine Con.of (by decide +kernel) (cat_R (cat_I (cat_I cat_nil))) (Nat.le_of_ble_eq_true rfl) (fun X hC hQ => ?_)
  refine r_sub (lo1 := [some (rv a0), some (.int a1), some (.int a2)]) (show lsub [some (rv a0), some (.int a1), some (.int a2)] _ from ⟨Or.inr rfl, ⟨Or.inr rfl, ⟨Or.inr rfl, trivial⟩⟩⟩) ?_
  exact ok_X7_pieces_0 hC hQ a0 a1 a2 h hV
theorem dX7_print_0 : decode cX7_print 0 = .ok (.aload_n 0, 1) := by decide +kernel
theorem dX7_print_1 : decode cX7_print 1 = .ok (.iload_n 1, 1) := by decide +kernel
theorem dX7_print_2 : decode cX7_print 2 = .ok (.invokevirtual 144, 3) := by decide +kernel
theorem dX7_print_5 : decode cX7_print 5 = .ok (.ifCond .eq 5, 3) := by decide +kernel
theorem dX7_print_8 : decode cX7_print 8 = .ok (.iconst (-1), 1) := by decide +kernel
theorem dX7_print_9 : decode cX7_print 9 = .ok (.ireturn, 1) := by decide +kernel
theorem dX7_print_10 : decode cX7_print 10 = .ok (.aload_n 0, 1) := by decide +kernel
theorem dX7_print_11 : decode cX7_print 11 = .ok (.iload_n 1, 1) := by decide +kernel
theorem dX7_print_12 : decode cX7_print 12 = .ok (.iconst 3, 1) := by decide +kernel
theorem dX7_print_13 : decode cX7_print 13 = .ok (.invokevirtual 60, 3) := by decide +kernel
theorem dX7_print_16 : decode cX7_print 16 = .ok (.iconst 1, 1) := by decide +kernel
theorem dX7_print_17 : decode cX7_print 17 = .ok (.if_icmp .eq 6, 3) := by decide +kernel
theorem dX7_print_20 : decode cX7_print 20 = .ok (.bipush (-4), 2) := by decide +kernel
theorem dX7_print_22 : decode cX7_print 22 = .ok (.ireturn, 1) := by decide +kernel
theorem dX7_print_23 : decode cX7_print 23 = .ok (.aload_n 0, 1) := by decide +kernel
theorem dX7_print_24 : decode cX7_print 24 = .ok (.invokevirtual 65, 3) := by decide +kernel
theorem dX7_print_27 : decode cX7_print 27 = .ok (.aload_n 0, 1) := by decide +kernel
theorem dX7_print_28 : decode cX7_print 28 = .ok (.getfield 7, 3) := by decide +kernel
theorem dX7_print_31 : decode cX7_print 31 = .ok (.iconst 3, 1) := by decide +kernel
theorem dX7_print_32 : decode cX7_print 32 = .ok (.iaload, 1) := by decide +kernel
theorem dX7_print_33 : decode cX7_print 33 = .ok (.aload_n 0, 1) := by decide +kernel
theorem dX7_print_34 : decode cX7_print 34 = .ok (.iload_n 1, 1) := by decide +kernel
theorem dX7_print_35 : decode cX7_print 35 = .ok (.iconst 2, 1) := by decide +kernel
theorem dX7_print_36 : decode cX7_print 36 = .ok (.invokevirtual 60, 3) := by decide +kernel
theorem dX7_print_39 : decode cX7_print 39 = .ok (.isub, 1) := by decide +kernel
theorem dX7_print_40 : decode cX7_print 40 = .ok (.istore_n 2, 1) := by decide +kernel
theorem dX7_print_41 : decode cX7_print 41 = .ok (.aload_n 0, 1) := by decide +kernel
theorem dX7_print_42 : decode cX7_print 42 = .ok (.iload_n 1, 1) := by decide +kernel
theorem dX7_print_43 : decode cX7_print 43 = .ok (.iconst 3, 1) := by decide +kernel
theorem dX7_print_44 : decode cX7_print 44 = .ok (.iconst 2, 1) := by decide +kernel
theorem dX7_print_45 : decode cX7_print 45 = .ok (.invokevirtual 141, 3) := by decide +kernel
theorem dX7_print_48 : decode cX7_print 48 = .ok (.aload_n 0, 1) := by decide +kernel
theorem dX7_print_49 : decode cX7_print 49 = .ok (.iload_n 1, 1) := by decide +kernel
theorem dX7_print_50 : decode cX7_print 50 = .ok (.iconst 4, 1) := by decide +kernel
theorem dX7_print_51 : decode cX7_print 51 = .ok (.aload_n 0, 1) := by decide +kernel
theorem dX7_print_52 : decode cX7_print 52 = .ok (.getfield 7, 3) := by decide +kernel
theorem dX7_print_55 : decode cX7_print 55 = .ok (.iconst 3, 1) := by decide +kernel
theorem dX7_print_56 : decode cX7_print 56 = .ok (.iaload, 1) := by decide +kernel
theorem dX7_print_57 : decode cX7_print 57 = .ok (.invokevirtual 141, 3) := by decide +kernel
theorem dX7_print_60 : decode cX7_print 60 = .ok (.aload_n 0, 1) := by decide +kernel
theorem dX7_print_61 : decode cX7_print 61 = .ok (.iload_n 1, 1) := by decide +kernel
theorem dX7_print_62 : decode cX7_print 62 = .ok (.iconst 5, 1) := by decide +kernel
theorem dX7_print_63 : decode cX7_print 63 = .ok (.iload_n 2, 1) := by decide +kernel
theorem dX7_print_64 : decode cX7_print 64 = .ok (.ifCond .ge 7, 3) := by decide +kernel
theorem dX7_print_67 : decode cX7_print 67 = .ok (.iconst 0, 1) := by decide +kernel
theorem dX7_print_68 : decode cX7_print 68 = .ok (.goto 4, 3) := by decide +kernel
theorem dX7_print_71 : decode cX7_print 71 = .ok (.iload_n 2, 1) := by decide +kernel
theorem dX7_print_72 : decode cX7_print 72 = .ok (.invokevirtual 141, 3) := by decide +kernel
theorem dX7_print_75 : decode cX7_print 75 = .ok (.aload_n 0, 1) := by decide +kernel
theorem dX7_print_76 : decode cX7_print 76 = .ok (.iload_n 1, 1) := by decide +kernel
theorem dX7_print_77 : decode cX7_print 77 = .ok (.iconst 5, 1) := by decide +kernel
theorem dX7_print_78 : decode cX7_print 78 = .ok (.invokevirtual 60, 3) := by decide +kernel
theorem dX7_print_81 : decode cX7_print 81 = .ok (.ireturn, 1) := by decide +kernel
def rm_X7_print : Room := { frames := 2, cells := 0, slots := 0, locals := 43 }
set_option maxRecDepth 100000 in
set_option maxHeartbeats 4000000 in
theorem ok_X7_print_72 {E : Ev} {X : Xt} {l0 : Launch} {K : Int32 → Hp → Prop} (hC : Cx E X l0 RX7 cX7_print 3 rm_X7_print) (hQ : CQ E X "print" (some .int) rm_X7_print (KI K)) (a0 : Nat) (a1 : Int32) (s0 : Nat) (s1 : Int32) (s2 : Int32) (s3 : Int32) (h : Hp) (hV : V_X7_print_72 K a0 a1 s0 s1 s2 s3 h) : WW E X h 0 0 72 [some (rv a0), some (.int a1), none] [.int s3, .int s2, .int s1, rv s0] := by
  unfold V_X7_print_72 at hV
  obtain ⟨k9, hV⟩ := hV
  refine r_callV (ci := 7) (As := [.int s1, .int s2, .int s3]) hC dX7_print_72 rfl cf_X7_put ml_7_141 im_X7_put sl_X7_put lq_7 rfl rfl k9 rfl ⟨Nat.le_of_ble_eq_true rfl, Nat.le_of_ble_eq_true rfl, Nat.le_of_ble_eq_true rfl, Nat.le_of_ble_eq_true rfl⟩ cs0 (Nat.le_of_ble_eq_true rfl) (con_X7_put s0 s1 s2 s3 h _ hV) rfl (kV (k := 0) (n := 0) (fun h1 hV => ?_))
  refine r_aload_n hC dX7_print_75 rfl ?_
  refine r_iload_n hC dX7_print_76 rfl ?_
  refine r_iconst (v := 5) hC dX7_print_77 (by decide) ?_
  obtain ⟨k9, hV⟩ := hV
  refine r_callV (ci := 7) (As := [.int a1, .int 5]) hC dX7_print_78 rfl cf_X7_ofJob ml_7_60 im_X7_ofJob sl_X7_ofJob lq_7 rfl rfl k9 rfl ⟨Nat.le_of_ble_eq_true rfl, Nat.le_of_ble_eq_true rfl, Nat.le_of_ble_eq_true rfl, Nat.le_of_ble_eq_true rfl⟩ cs0 (Nat.le_of_ble_eq_true rfl) (con_X7_ofJob a0 a1 5 h1 _ hV) rfl (kI (k := 0) (n := 0) (fun r1 h2 hV => ?_))
  exact r_iret hC hQ dX7_print_81 (Nat.le_of_ble_eq_true rfl) (Nat.le_of_ble_eq_true rfl) ⟨_, rfl, hV⟩
set_option maxRecDepth 100000 in
set_option maxHeartbeats 4000000 in
theorem ok_X7_print_0 {E : Ev} {X : Xt} {l0 : Launch} {K : Int32 → Hp → Prop} (hC : Cx E X l0 RX7 cX7_print 3 rm_X7_print) (hQ : CQ E X "print" (some .int) rm_X7_print (KI K)) (a0 : Nat) (a1 : Int32) (h : Hp) (hV : V_X7_print a0 a1 h K) : WW E X h 0 0 0 [some (rv a0), some (.int a1), none] [] := by
  unfold V_X7_print at hV
  refine r_aload_n hC dX7_print_0 rfl ?_
  refine r_iload_n hC dX7_print_1 rfl ?_
  obtain ⟨k9, hV⟩ := hV
  refine r_callV (ci := 7) (As := [.int a1]) hC dX7_print_2 rfl cf_X7_noJob ml_7_144 im_X7_noJob sl_X7_noJob lq_7 rfl rfl k9 rfl ⟨Nat.le_of_ble_eq_true rfl, Nat.le_of_ble_eq_true rfl, Nat.le_of_ble_eq_true rfl, Nat.le_of_ble_eq_true rfl⟩ cs0 (Nat.le_of_ble_eq_true rfl) (con_X7_noJob a0 a1 h _ hV) rfl (kI (k := 0) (n := 0) (fun r1 h1 hV => ?_))
  refine r_if_eq (tgt := 10) hC dX7_print_5 (by decide) (fun k9 => ?_) (fun k9 => ?_)
  · replace hV := hV.1 k9
    refine r_aload_n hC dX7_print_10 rfl ?_
    refine r_iload_n hC dX7_print_11 rfl ?_
    refine r_iconst (v := 3) hC dX7_print_12 (by decide) ?_
    obtain ⟨k9, hV⟩ := hV
    refine r_callV (ci := 7) (As := [.int a1, .int 3]) hC dX7_print_13 rfl cf_X7_ofJob ml_7_60 im_X7_ofJob sl_X7_ofJob lq_7 rfl rfl k9 rfl ⟨Nat.le_of_ble_eq_true rfl, Nat.le_of_ble_eq_true rfl, Nat.le_of_ble_eq_true rfl, Nat.le_of_ble_eq_true rfl⟩ cs0 (Nat.le_of_ble_eq_true rfl) (con_X7_ofJob a0 a1 3 h1 _ hV) rfl (kI (k := 0) (n := 0) (fun r2 h2 hV => ?_))
    refine r_iconst (v := 1) hC dX7_print_16 (by decide) ?_
    refine r_icmp_eq (tgt := 23) hC dX7_print_17 (by decide) (fun k9 => ?_) (fun k9 => ?_)
    · replace hV := hV.1 k9
      refine r_aload_n hC dX7_print_23 rfl ?_
      obtain ⟨k9, hV⟩ := hV
      refine r_callV (ci := 7) (As := []) hC dX7_print_24 rfl cf_X7_record ml_7_65 im_X7_record sl_X7_record lq_7 rfl rfl k9 rfl ⟨Nat.le_of_ble_eq_true rfl, Nat.le_of_ble_eq_true rfl, Nat.le_of_ble_eq_true rfl, Nat.le_of_ble_eq_true rfl⟩ cs0 (Nat.le_of_ble_eq_true rfl) (con_X7_record a0 h2 _ hV) rfl (kV (k := 0) (n := 0) (fun h3 hV => ?_))
      refine r_aload_n hC dX7_print_27 rfl ?_
      obtain ⟨k9, hV⟩ := hV
      refine r_getR hC dX7_print_28 fl_7_7 rf_7_0 lq_7 k9 ?_
      refine r_iconst (v := 3) hC dX7_print_31 (by decide) ?_
      obtain ⟨k9, k8, hV⟩ := hV
      refine r_iald (kd := 60) hC dX7_print_32 (by decide) rfl k9 k8 ?_
      refine r_aload_n hC dX7_print_33 rfl ?_
      refine r_iload_n hC dX7_print_34 rfl ?_
      refine r_iconst (v := 2) hC dX7_print_35 (by decide) ?_
      obtain ⟨k9, hV⟩ := hV
      refine r_callV (ci := 7) (As := [.int a1, .int 2]) hC dX7_print_36 rfl cf_X7_ofJob ml_7_60 im_X7_ofJob sl_X7_ofJob lq_7 rfl rfl k9 rfl ⟨Nat.le_of_ble_eq_true rfl, Nat.le_of_ble_eq_true rfl, Nat.le_of_ble_eq_true rfl, Nat.le_of_ble_eq_true rfl⟩ (csI cs0) (Nat.le_of_ble_eq_true rfl) (con_X7_ofJob a0 a1 2 h3 _ hV) rfl (kI (k := 0) (n := 0) (fun r3 h4 hV => ?_))
      refine r_isub hC dX7_print_39 ?_
      refine r_istore_n (lo1 := [some (rv a0), some (.int a1), some (.int ((hI h3 (hR h3 a0 0) (ix 3)) - r3))]) hC dX7_print_40 (Nat.le_of_ble_eq_true rfl) rfl ?_
      refine r_aload_n hC dX7_print_41 rfl ?_
      refine r_iload_n hC dX7_print_42 rfl ?_
      refine r_iconst (v := 3) hC dX7_print_43 (by decide) ?_
      refine r_iconst (v := 2) hC dX7_print_44 (by decide) ?_
      obtain ⟨k9, hV⟩ := hV
      refine r_callV (ci := 7) (As := [.int a1, .int 3, .int 2]) hC dX7_print_45 rfl cf_X7_put ml_7_141 im_X7_put sl_X7_put lq_7 rfl rfl k9 rfl ⟨Nat.le_of_ble_eq_true rfl, Nat.le_of_ble_eq_true rfl, Nat.le_of_ble_eq_true rfl, Nat.le_of_ble_eq_true rfl⟩ cs0 (Nat.le_of_ble_eq_true rfl) (con_X7_put a0 a1 3 2 h4 _ hV) rfl (kV (k := 0) (n := 0) (fun h5 hV => ?_))
      refine r_aload_n hC dX7_print_48 rfl ?_
      refine r_iload_n hC dX7_print_49 rfl ?_
      refine r_iconst (v := 4) hC dX7_print_50 (by decide) ?_
      refine r_aload_n hC dX7_print_51 rfl ?_
      obtain ⟨k9, hV⟩ := hV
      refine r_getR hC dX7_print_52 fl_7_7 rf_7_0 lq_7 k9 ?_
      refine r_iconst (v := 3) hC dX7_print_55 (by decide) ?_
      obtain ⟨k9, k8, hV⟩ := hV
      refine r_iald (kd := 60) hC dX7_print_56 (by decide) rfl k9 k8 ?_
      obtain ⟨k9, hV⟩ := hV
      refine r_callV (ci := 7) (As := [.int a1, .int 4, .int (hI h5 (hR h5 a0 0) (ix 3))]) hC dX7_print_57 rfl cf_X7_put ml_7_141 im_X7_put sl_X7_put lq_7 rfl rfl k9 rfl ⟨Nat.le_of_ble_eq_true rfl, Nat.le_of_ble_eq_true rfl, Nat.le_of_ble_eq_true rfl, Nat.le_of_ble_eq_true rfl⟩ cs0 (Nat.le_of_ble_eq_true rfl) (con_X7_put a0 a1 4 (hI h5 (hR h5 a0 0) (ix 3)) h5 _ hV) rfl (kV (k := 0) (n := 0) (fun h6 hV => ?_))
      refine r_aload_n hC dX7_print_60 rfl ?_
      refine r_iload_n hC dX7_print_61 rfl ?_
      refine r_iconst (v := 5) hC dX7_print_62 (by decide) ?_
      refine r_iload_n hC dX7_print_63 rfl ?_
      refine r_if_ge (tgt := 71) hC dX7_print_64 (by decide) (fun k9 => ?_) (fun k9 => ?_)
      · replace hV := hV.1 k9
        refine r_iload_n hC dX7_print_71 rfl ?_
        refine r_sub (lo1 := [some (rv a0), some (.int a1), none]) ⟨Or.inr rfl, ⟨Or.inr rfl, ⟨Or.inl rfl, trivial⟩⟩⟩ ?_
        exact ok_X7_print_72 hC hQ a0 a1 a0 a1 5 ((hI h3 (hR h3 a0 0) (ix 3)) - r3) h6 hV
      · replace hV := hV.2 k9
        refine r_iconst (v := 0) hC dX7_print_67 (by decide) ?_
        refine r_goto (tgt := 72) hC dX7_print_68 (by decide) ?_
        refine r_sub (lo1 := [some (rv a0), some (.int a1), none]) ⟨Or.inr rfl, ⟨Or.inr rfl, ⟨Or.inl rfl, trivial⟩⟩⟩ ?_
        exact ok_X7_print_72 hC hQ a0 a1 a0 a1 5 0 h6 hV
    · replace hV := hV.2 k9
      refine r_bipush (v := (-4)) hC dX7_print_20 (by decide) ?_
      exact r_iret hC hQ dX7_print_22 (Nat.le_of_ble_eq_true rfl) (Nat.le_of_ble_eq_true rfl) ⟨_, rfl, hV⟩
  · replace hV := hV.2 k9
    refine r_iconst (v := (-1)) hC dX7_print_8 (by decide) ?_
    exact r_iret hC hQ dX7_print_9 (Nat.le_of_ble_eq_true rfl) (Nat.le_of_ble_eq_true rfl) ⟨_, rfl, hV⟩
set_option maxRecDepth 100000 in
set_option maxHeartbeats 4000000 in
theorem con_X7_print {E : Ev} {l0 : Launch} (a0 : Nat) (a1 : Int32) (h : Hp) (K : Int32 → Hp → Prop) (hV : V_X7_print a0 a1 h K) : Con E l0 yX7_print cX7_print 3 (some .int) rm_X7_print [rv a0, .int a1] h (KI K) := by
  refine Con.of (by decide +kernel) (cat_R (cat_I cat_nil)) (Nat.le_of_ble_eq_true rfl) (fun X hC hQ => ?_)
  refine r_sub (lo1 := [some (rv a0), some (.int a1), none]) (show lsub [some (rv a0), some (.int a1), none] _ from ⟨Or.inr rfl, ⟨Or.inr rfl, ⟨Or.inr rfl, trivial⟩⟩⟩) ?_
  exact ok_X7_print_0 hC hQ a0 a1 h hV
theorem dX7_restore_0 : decode cX7_restore 0 = .ok (.aload_n 0, 1) := by decide +kernel
theorem dX7_restore_1 : decode cX7_restore 1 = .ok (.getfield 164, 3) := by decide +kernel
theorem dX7_restore_4 : decode cX7_restore 4 = .ok (.ifCond .ne 6, 3) := by decide +kernel
theorem dX7_restore_7 : decode cX7_restore 7 = .ok (.bipush (-5), 2) := by decide +kernel
theorem dX7_restore_9 : decode cX7_restore 9 = .ok (.ireturn, 1) := by decide +kernel
theorem dX7_restore_10 : decode cX7_restore 10 = .ok (.aload_n 0, 1) := by decide +kernel
theorem dX7_restore_11 : decode cX7_restore 11 = .ok (.invokevirtual 65, 3) := by decide +kernel
theorem dX7_restore_14 : decode cX7_restore 14 = .ok (.iconst 0, 1) := by decide +kernel
theorem dX7_restore_15 : decode cX7_restore 15 = .ok (.istore_n 1, 1) := by decide +kernel
theorem dX7_restore_16 : decode cX7_restore 16 = .ok (.iload_n 1, 1) := by decide +kernel
theorem dX7_restore_17 : decode cX7_restore 17 = .ok (.sipush 3475, 3) := by decide +kernel
theorem dX7_restore_20 : decode cX7_restore 20 = .ok (.if_icmp .ge 21, 3) := by decide +kernel
theorem dX7_restore_23 : decode cX7_restore 23 = .ok (.aload_n 0, 1) := by decide +kernel
theorem dX7_restore_24 : decode cX7_restore 24 = .ok (.getfield 7, 3) := by decide +kernel
theorem dX7_restore_27 : decode cX7_restore 27 = .ok (.iload_n 1, 1) := by decide +kernel
theorem dX7_restore_28 : decode cX7_restore 28 = .ok (.aload_n 0, 1) := by decide +kernel
theorem dX7_restore_29 : decode cX7_restore 29 = .ok (.getfield 16, 3) := by decide +kernel
theorem dX7_restore_32 : decode cX7_restore 32 = .ok (.iload_n 1, 1) := by decide +kernel
theorem dX7_restore_33 : decode cX7_restore 33 = .ok (.iaload, 1) := by decide +kernel
theorem dX7_restore_34 : decode cX7_restore 34 = .ok (.iastore, 1) := by decide +kernel
theorem dX7_restore_35 : decode cX7_restore 35 = .ok (.iinc 1 1, 3) := by decide +kernel
theorem dX7_restore_38 : decode cX7_restore 38 = .ok (.goto (-22), 3) := by decide +kernel
theorem dX7_restore_41 : decode cX7_restore 41 = .ok (.aload_n 0, 1) := by decide +kernel
theorem dX7_restore_42 : decode cX7_restore 42 = .ok (.getfield 7, 3) := by decide +kernel
theorem dX7_restore_45 : decode cX7_restore 45 = .ok (.iconst 1, 1) := by decide +kernel
theorem dX7_restore_46 : decode cX7_restore 46 = .ok (.iaload, 1) := by decide +kernel
theorem dX7_restore_47 : decode cX7_restore 47 = .ok (.ireturn, 1) := by decide +kernel
def rm_X7_restore : Room := { frames := 1, cells := 0, slots := 0, locals := 21 }
set_option maxRecDepth 100000 in
set_option maxHeartbeats 4000000 in
theorem ok_X7_restore_16 {E : Ev} {X : Xt} {l0 : Launch} {K : Int32 → Hp → Prop} (hC : Cx E X l0 RX7 cX7_restore 2 rm_X7_restore) (hQ : CQ E X "restore" (some .int) rm_X7_restore (KI K)) : ∀ (n : Nat) (a0 : Nat) (a1 : Int32) (h : Hp), V_X7_restore_16 K n a0 a1 h → WW E X h 0 0 16 [some (rv a0), some (.int a1)] [] := by
  intro n
  induction n with
  | zero => intro a0 a1 h hV; exact hV.elim
  | succ n ih =>
    intro a0 a1 h hV
    unfold V_X7_restore_16 at hV
    refine r_iload_n hC dX7_restore_16 rfl ?_
    refine r_sipush (v := 3475) hC dX7_restore_17 (by decide) ?_
    refine r_icmp_ge (tgt := 41) hC dX7_restore_20 (by decide) (fun k9 => ?_) (fun k9 => ?_)
    · replace hV := hV.1 k9
      refine r_aload_n hC dX7_restore_41 rfl ?_
      obtain ⟨k9, hV⟩ := hV
      refine r_getR hC dX7_restore_42 fl_7_7 rf_7_0 lq_7 k9 ?_
      refine r_iconst (v := 1) hC dX7_restore_45 (by decide) ?_
      obtain ⟨k9, k8, hV⟩ := hV
      refine r_iald (kd := 60) hC dX7_restore_46 (by decide) rfl k9 k8 ?_
      exact r_iret hC hQ dX7_restore_47 (Nat.le_of_ble_eq_true rfl) (Nat.le_of_ble_eq_true rfl) ⟨_, rfl, hV⟩
    · replace hV := hV.2 k9
      refine r_aload_n hC dX7_restore_23 rfl ?_
      obtain ⟨k9, hV⟩ := hV
      refine r_getR hC dX7_restore_24 fl_7_7 rf_7_0 lq_7 k9 ?_
      refine r_iload_n hC dX7_restore_27 rfl ?_
      refine r_aload_n hC dX7_restore_28 rfl ?_
      obtain ⟨k9, hV⟩ := hV
      refine r_getR hC dX7_restore_29 fl_7_16 rf_7_3 lq_7 k9 ?_
      refine r_iload_n hC dX7_restore_32 rfl ?_
      obtain ⟨k9, k8, hV⟩ := hV
      refine r_iald (kd := 63) hC dX7_restore_33 (by decide) rfl k9 k8 ?_
      obtain ⟨k9, k8, hV⟩ := hV
      refine r_iast (kd := 60) hC dX7_restore_34 (by decide) rfl k9 k8 (nmH (fun h1 k9 => ?_))
      replace hV := hV h1 k9
      refine r_iinc (v := 1) (lo1 := [some (rv a0), some (.int (a1 + 1))]) hC dX7_restore_35 rfl (by decide) rfl ?_
      refine r_goto (tgt := 16) hC dX7_restore_38 (by decide) ?_
      exact ih a0 (a1 + 1) h1 hV
set_option maxRecDepth 100000 in
set_option maxHeartbeats 4000000 in
theorem ok_X7_restore_0 {E : Ev} {X : Xt} {l0 : Launch} {K : Int32 → Hp → Prop} (hC : Cx E X l0 RX7 cX7_restore 2 rm_X7_restore) (hQ : CQ E X "restore" (some .int) rm_X7_restore (KI K)) (a0 : Nat) (h : Hp) (hV : V_X7_restore a0 h K) : WW E X h 0 0 0 [some (rv a0), none] [] := by
  unfold V_X7_restore at hV
  refine r_aload_n hC dX7_restore_0 rfl ?_
  obtain ⟨k9, hV⟩ := hV
  refine r_getI hC dX7_restore_1 fl_7_164 rf_7_4 lq_7 k9 ?_
  refine r_if_ne (tgt := 10) hC dX7_restore_4 (by decide) (fun k9 => ?_) (fun k9 => ?_)
  · replace hV := hV.1 k9
    refine r_aload_n hC dX7_restore_10 rfl ?_
    obtain ⟨k9, hV⟩ := hV
    refine r_callV (ci := 7) (As := []) hC dX7_restore_11 rfl cf_X7_record ml_7_65 im_X7_record sl_X7_record lq_7 rfl rfl k9 rfl ⟨Nat.le_of_ble_eq_true rfl, Nat.le_of_ble_eq_true rfl, Nat.le_of_ble_eq_true rfl, Nat.le_of_ble_eq_true rfl⟩ cs0 (Nat.le_of_ble_eq_true rfl) (con_X7_record a0 h _ hV) rfl (kV (k := 0) (n := 0) (fun h1 hV => ?_))
    refine r_iconst (v := 0) hC dX7_restore_14 (by decide) ?_
    refine r_istore_n (lo1 := [some (rv a0), some (.int 0)]) hC dX7_restore_15 (Nat.le_of_ble_eq_true rfl) rfl ?_
    obtain ⟨n9, hV⟩ := hV
    exact ok_X7_restore_16 hC hQ n9 a0 0 h1 hV
  · replace hV := hV.2 k9
    refine r_bipush (v := (-5)) hC dX7_restore_7 (by decide) ?_
    exact r_iret hC hQ dX7_restore_9 (Nat.le_of_ble_eq_true rfl) (Nat.le_of_ble_eq_true rfl) ⟨_, rfl, hV⟩
set_option maxRecDepth 100000 in
set_option maxHeartbeats 4000000 in
theorem con_X7_restore {E : Ev} {l0 : Launch} (a0 : Nat) (h : Hp) (K : Int32 → Hp → Prop) (hV : V_X7_restore a0 h K) : Con E l0 yX7_restore cX7_restore 2 (some .int) rm_X7_restore [rv a0] h (KI K) := by
  refine Con.of (by decide +kernel) (cat_R cat_nil) (Nat.le_of_ble_eq_true rfl) (fun X hC hQ => ?_)
  refine r_sub (lo1 := [some (rv a0), none]) (show lsub [some (rv a0), none] _ from ⟨Or.inr rfl, ⟨Or.inr rfl, trivial⟩⟩) ?_
  exact ok_X7_restore_0 hC hQ a0 h hV
theorem dX7_takes_0 : decode cX7_takes 0 = .ok (.aload_n 0, 1) := by decide +kernel
theorem dX7_takes_1 : decode cX7_takes 1 = .ok (.iload_n 1, 1) := by decide +kernel
theorem dX7_takes_2 : decode cX7_takes 2 = .ok (.iconst 0, 1) := by decide +kernel
theorem dX7_takes_3 : decode cX7_takes 3 = .ok (.invokevirtual 60, 3) := by decide +kernel
theorem dX7_takes_6 : decode cX7_takes 6 = .ok (.istore_n 3, 1) := by decide +kernel
theorem dX7_takes_7 : decode cX7_takes 7 = .ok (.aload_n 0, 1) := by decide +kernel
theorem dX7_takes_8 : decode cX7_takes 8 = .ok (.getfield 37, 3) := by decide +kernel
theorem dX7_takes_11 : decode cX7_takes 11 = .ok (.iload_n 2, 1) := by decide +kernel
theorem dX7_takes_12 : decode cX7_takes 12 = .ok (.iaload, 1) := by decide +kernel
theorem dX7_takes_13 : decode cX7_takes 13 = .ok (.istore 4, 2) := by decide +kernel
theorem dX7_takes_15 : decode cX7_takes 15 = .ok (.iconst 0, 1) := by decide +kernel
theorem dX7_takes_16 : decode cX7_takes 16 = .ok (.istore 5, 2) := by decide +kernel
theorem dX7_takes_18 : decode cX7_takes 18 = .ok (.iconst (-1), 1) := by decide +kernel
theorem dX7_takes_19 : decode cX7_takes 19 = .ok (.istore 6, 2) := by decide +kernel
theorem dX7_takes_21 : decode cX7_takes 21 = .ok (.iload 6, 2) := by decide +kernel
theorem dX7_takes_23 : decode cX7_takes 23 = .ok (.aload_n 0, 1) := by decide +kernel
theorem dX7_takes_24 : decode cX7_takes 24 = .ok (.getfield 7, 3) := by decide +kernel
theorem dX7_takes_27 : decode cX7_takes 27 = .ok (.iconst 0, 1) := by decide +kernel
theorem dX7_takes_28 : decode cX7_takes 28 = .ok (.iaload, 1) := by decide +kernel
theorem dX7_takes_29 : decode cX7_takes 29 = .ok (.if_icmp .ge 116, 3) := by decide +kernel
theorem dX7_takes_32 : decode cX7_takes 32 = .ok (.iload 6, 2) := by decide +kernel
theorem dX7_takes_34 : decode cX7_takes 34 = .ok (.ifCond .ge 7, 3) := by decide +kernel
theorem dX7_takes_37 : decode cX7_takes 37 = .ok (.iload_n 3, 1) := by decide +kernel
theorem dX7_takes_38 : decode cX7_takes 38 = .ok (.goto 5, 3) := by decide +kernel
theorem dX7_takes_41 : decode cX7_takes 41 = .ok (.iload 6, 2) := by decide +kernel
theorem dX7_takes_43 : decode cX7_takes 43 = .ok (.istore 7, 2) := by decide +kernel
theorem dX7_takes_45 : decode cX7_takes 45 = .ok (.iload 6, 2) := by decide +kernel
theorem dX7_takes_47 : decode cX7_takes 47 = .ok (.iload_n 3, 1) := by decide +kernel
theorem dX7_takes_48 : decode cX7_takes 48 = .ok (.if_icmp .ne 7, 3) := by decide +kernel
theorem dX7_takes_51 : decode cX7_takes 51 = .ok (.iconst 0, 1) := by decide +kernel
theorem dX7_takes_52 : decode cX7_takes 52 = .ok (.goto 15, 3) := by decide +kernel
theorem dX7_takes_55 : decode cX7_takes 55 = .ok (.iload 4, 2) := by decide +kernel
theorem dX7_takes_57 : decode cX7_takes 57 = .ok (.aload_n 0, 1) := by decide +kernel
theorem dX7_takes_58 : decode cX7_takes 58 = .ok (.iload 7, 2) := by decide +kernel
theorem dX7_takes_60 : decode cX7_takes 60 = .ok (.iload_n 2, 1) := by decide +kernel
theorem dX7_takes_61 : decode cX7_takes 61 = .ok (.invokevirtual 79, 3) := by decide +kernel
theorem dX7_takes_64 : decode cX7_takes 64 = .ok (.invokestatic 132, 3) := by decide +kernel
theorem dX7_takes_67 : decode cX7_takes 67 = .ok (.istore 8, 2) := by decide +kernel
theorem dX7_takes_69 : decode cX7_takes 69 = .ok (.aload_n 0, 1) := by decide +kernel
theorem dX7_takes_70 : decode cX7_takes 70 = .ok (.getfield 7, 3) := by decide +kernel
theorem dX7_takes_73 : decode cX7_takes 73 = .ok (.bipush 8, 2) := by decide +kernel
theorem dX7_takes_75 : decode cX7_takes 75 = .ok (.bipush 29, 2) := by decide +kernel
theorem dX7_takes_77 : decode cX7_takes 77 = .ok (.iload 7, 2) := by decide +kernel
theorem dX7_takes_79 : decode cX7_takes 79 = .ok (.imul, 1) := by decide +kernel
theorem dX7_takes_80 : decode cX7_takes 80 = .ok (.iadd, 1) := by decide +kernel
theorem dX7_takes_81 : decode cX7_takes 81 = .ok (.iload_n 2, 1) := by decide +kernel
theorem dX7_takes_82 : decode cX7_takes 82 = .ok (.iadd, 1) := by decide +kernel
theorem dX7_takes_83 : decode cX7_takes 83 = .ok (.dup2, 1) := by decide +kernel
theorem dX7_takes_84 : decode cX7_takes 84 = .ok (.iaload, 1) := by decide +kernel
theorem dX7_takes_85 : decode cX7_takes 85 = .ok (.iload 8, 2) := by decide +kernel
theorem dX7_takes_87 : decode cX7_takes 87 = .ok (.isub, 1) := by decide +kernel
theorem dX7_takes_88 : decode cX7_takes 88 = .ok (.iastore, 1) := by decide +kernel
theorem dX7_takes_89 : decode cX7_takes 89 = .ok (.aload_n 0, 1) := by decide +kernel
theorem dX7_takes_90 : decode cX7_takes 90 = .ok (.iload_n 1, 1) := by decide +kernel
theorem dX7_takes_91 : decode cX7_takes 91 = .ok (.bipush 67, 2) := by decide +kernel
theorem dX7_takes_93 : decode cX7_takes 93 = .ok (.bipush 29, 2) := by decide +kernel
theorem dX7_takes_95 : decode cX7_takes 95 = .ok (.iload 7, 2) := by decide +kernel
theorem dX7_takes_97 : decode cX7_takes 97 = .ok (.imul, 1) := by decide +kernel
theorem dX7_takes_98 : decode cX7_takes 98 = .ok (.iadd, 1) := by decide +kernel
theorem dX7_takes_99 : decode cX7_takes 99 = .ok (.iload_n 2, 1) := by decide +kernel
theorem dX7_takes_100 : decode cX7_takes 100 = .ok (.iadd, 1) := by decide +kernel
theorem dX7_takes_101 : decode cX7_takes 101 = .ok (.aload_n 0, 1) := by decide +kernel
theorem dX7_takes_102 : decode cX7_takes 102 = .ok (.iload_n 1, 1) := by decide +kernel
theorem dX7_takes_103 : decode cX7_takes 103 = .ok (.iload 7, 2) := by decide +kernel
theorem dX7_takes_105 : decode cX7_takes 105 = .ok (.iload_n 2, 1) := by decide +kernel
theorem dX7_takes_106 : decode cX7_takes 106 = .ok (.invokevirtual 128, 3) := by decide +kernel
theorem dX7_takes_109 : decode cX7_takes 109 = .ok (.iload 8, 2) := by decide +kernel
theorem dX7_takes_111 : decode cX7_takes 111 = .ok (.iadd, 1) := by decide +kernel
theorem dX7_takes_112 : decode cX7_takes 112 = .ok (.invokevirtual 141, 3) := by decide +kernel
theorem dX7_takes_115 : decode cX7_takes 115 = .ok (.iload 4, 2) := by decide +kernel
theorem dX7_takes_117 : decode cX7_takes 117 = .ok (.iload 8, 2) := by decide +kernel
theorem dX7_takes_119 : decode cX7_takes 119 = .ok (.isub, 1) := by decide +kernel
theorem dX7_takes_120 : decode cX7_takes 120 = .ok (.istore 4, 2) := by decide +kernel
theorem dX7_takes_122 : decode cX7_takes 122 = .ok (.iload 5, 2) := by decide +kernel
theorem dX7_takes_124 : decode cX7_takes 124 = .ok (.iload 7, 2) := by decide +kernel
theorem dX7_takes_126 : decode cX7_takes 126 = .ok (.iload_n 3, 1) := by decide +kernel
theorem dX7_takes_127 : decode cX7_takes 127 = .ok (.if_icmp .ne 7, 3) := by decide +kernel
theorem dX7_takes_130 : decode cX7_takes 130 = .ok (.iconst 0, 1) := by decide +kernel
theorem dX7_takes_131 : decode cX7_takes 131 = .ok (.goto 5, 3) := by decide +kernel
theorem dX7_takes_134 : decode cX7_takes 134 = .ok (.iload 8, 2) := by decide +kernel
theorem dX7_takes_136 : decode cX7_takes 136 = .ok (.iadd, 1) := by decide +kernel
theorem dX7_takes_137 : decode cX7_takes 137 = .ok (.istore 5, 2) := by decide +kernel
theorem dX7_takes_139 : decode cX7_takes 139 = .ok (.iinc 6 1, 3) := by decide +kernel
theorem dX7_takes_142 : decode cX7_takes 142 = .ok (.goto (-121), 3) := by decide +kernel
theorem dX7_takes_145 : decode cX7_takes 145 = .ok (.iload 5, 2) := by decide +kernel
theorem dX7_takes_147 : decode cX7_takes 147 = .ok (.ireturn, 1) := by decide +kernel
def rm_X7_takes : Room := { frames := 2, cells := 0, slots := 0, locals := 45 }
set_option maxRecDepth 100000 in
set_option maxHeartbeats 4000000 in
theorem ok_X7_takes_136 {E : Ev} {X : Xt} {l0 : Launch} {K : Int32 → Hp → Prop} {C21 : Nat → Int32 → Int32 → Int32 → Int32 → Int32 → Int32 → Hp → Prop} (hC : Cx E X l0 RX7 cX7_takes 9 rm_X7_takes) (hQ : CQ E X "takes" (some .int) rm_X7_takes (KI K)) (hC21 : ∀ (a0 : Nat) (a1 : Int32) (a2 : Int32) (a3 : Int32) (a4 : Int32) (a5 : Int32) (a6 : Int32) (h : Hp), C21 a0 a1 a2 a3 a4 a5 a6 h → WW E X h 0 0 21 [some (rv a0), some (.int a1), some (.int a2), some (.int a3), some (.int a4), some (.int a5), some (.int a6), none, none] []) (a0 : Nat) (a1 : Int32) (a2 : Int32) (a3 : Int32) (a4 : Int32) (a6 : Int32) (s0 : Int32) (s1 : Int32) (h : Hp) (hV : V_X7_takes_136 K C21 a0 a1 a2 a3 a4 a6 s0 s1 h) : WW E X h 0 0 136 [some (rv a0), some (.int a1), some (.int a2), some (.int a3), some (.int a4), none, some (.int a6), none, none] [.int s1, .int s0] := by
  unfold V_X7_takes_136 at hV
  refine r_iadd hC dX7_takes_136 ?_
  refine r_istore (lo1 := [some (rv a0), some (.int a1), some (.int a2), some (.int a3), some (.int a4), some (.int (s0 + s1)), some (.int a6), none, none]) hC dX7_takes_137 (Nat.le_of_ble_eq_true rfl) rfl ?_
  refine r_iinc (v := 1) (lo1 := [some (rv a0), some (.int a1), some (.int a2), some (.int a3), some (.int a4), some (.int (s0 + s1)), some (.int (a6 + 1)), none, none]) hC dX7_takes_139 rfl (by decide) rfl ?_
  refine r_goto (tgt := 21) hC dX7_takes_142 (by decide) ?_
  exact hC21 a0 a1 a2 a3 a4 (s0 + s1) (a6 + 1) h hV
set_option maxRecDepth 100000 in
set_option maxHeartbeats 4000000 in
theorem ok_X7_takes_67 {E : Ev} {X : Xt} {l0 : Launch} {K : Int32 → Hp → Prop} {C21 : Nat → Int32 → Int32 → Int32 → Int32 → Int32 → Int32 → Hp → Prop} (hC : Cx E X l0 RX7 cX7_takes 9 rm_X7_takes) (hQ : CQ E X "takes" (some .int) rm_X7_takes (KI K)) (hC21 : ∀ (a0 : Nat) (a1 : Int32) (a2 : Int32) (a3 : Int32) (a4 : Int32) (a5 : Int32) (a6 : Int32) (h : Hp), C21 a0 a1 a2 a3 a4 a5 a6 h → WW E X h 0 0 21 [some (rv a0), some (.int a1), some (.int a2), some (.int a3), some (.int a4), some (.int a5), some (.int a6), none, none] []) (a0 : Nat) (a1 : Int32) (a2 : Int32) (a3 : Int32) (a4 : Int32) (a5 : Int32) (a6 : Int32) (a7 : Int32) (s0 : Int32) (h : Hp) (hV : V_X7_takes_67 K C21 a0 a1 a2 a3 a4 a5 a6 a7 s0 h) : WW E X h 0 0 67 [some (rv a0), some (.int a1), some (.int a2), some (.int a3), some (.int a4), some (.int a5), some (.int a6), some (.int a7), none] [.int s0] := by
  unfold V_X7_takes_67 at hV
  refine r_istore (lo1 := [some (rv a0), some (.int a1), some (.int a2), some (.int a3), some (.int a4), some (.int a5), some (.int a6), some (.int a7), some (.int s0)]) hC dX7_takes_67 (Nat.le_of_ble_eq_true rfl) rfl ?_
  refine r_aload_n hC dX7_takes_69 rfl ?_
  obtain ⟨k9, hV⟩ := hV
  refine r_getR hC dX7_takes_70 fl_7_7 rf_7_0 lq_7 k9 ?_
  refine r_bipush (v := 8) hC dX7_takes_73 (by decide) ?_
  refine r_bipush (v := 29) hC dX7_takes_75 (by decide) ?_
  refine r_iload hC dX7_takes_77 rfl ?_
  refine r_imul hC dX7_takes_79 ?_
  refine r_iadd hC dX7_takes_80 ?_
  refine r_iload_n hC dX7_takes_81 rfl ?_
  refine r_iadd hC dX7_takes_82 ?_
  refine r_dup2 hC dX7_takes_83 rfl (rv_cat _) ?_
  obtain ⟨k9, k8, hV⟩ := hV
  refine r_iald (kd := 60) hC dX7_takes_84 (by decide) rfl k9 k8 ?_
  refine r_iload hC dX7_takes_85 rfl ?_
  refine r_isub hC dX7_takes_87 ?_
  obtain ⟨k9, k8, hV⟩ := hV
  refine r_iast (kd := 60) hC dX7_takes_88 (by decide) rfl k9 k8 (nmH (fun h1 k9 => ?_))
  replace hV := hV h1 k9
  refine r_aload_n hC dX7_takes_89 rfl ?_
  refine r_iload_n hC dX7_takes_90 rfl ?_
  refine r_bipush (v := 67) hC dX7_takes_91 (by decide) ?_
  refine r_bipush (v := 29) hC dX7_takes_93 (by decide) ?_
  refine r_iload hC dX7_takes_95 rfl ?_
  refine r_imul hC dX7_takes_97 ?_
  refine r_iadd hC dX7_takes_98 ?_
  refine r_iload_n hC dX7_takes_99 rfl ?_
  refine r_iadd hC dX7_takes_100 ?_
  refine r_aload_n hC dX7_takes_101 rfl ?_
  refine r_iload_n hC dX7_takes_102 rfl ?_
  refine r_iload hC dX7_takes_103 rfl ?_
  refine r_iload_n hC dX7_takes_105 rfl ?_
  obtain ⟨k9, hV⟩ := hV
  refine r_callV (ci := 7) (As := [.int a1, .int a7, .int a2]) hC dX7_takes_106 rfl cf_X7_inForme ml_7_128 im_X7_inForme sl_X7_inForme lq_7 rfl rfl k9 rfl ⟨Nat.le_of_ble_eq_true rfl, Nat.le_of_ble_eq_true rfl, Nat.le_of_ble_eq_true rfl, Nat.le_of_ble_eq_true rfl⟩ (csI (csI (csR cs0))) (Nat.le_of_ble_eq_true rfl) (con_X7_inForme a0 a1 a7 a2 h1 _ hV) rfl (kI (k := 0) (n := 0) (fun r1 h2 hV => ?_))
  refine r_iload hC dX7_takes_109 rfl ?_
  refine r_iadd hC dX7_takes_111 ?_
  obtain ⟨k9, hV⟩ := hV
  refine r_callV (ci := 7) (As := [.int a1, .int ((67 + (29 * a7)) + a2), .int (r1 + s0)]) hC dX7_takes_112 rfl cf_X7_put ml_7_141 im_X7_put sl_X7_put lq_7 rfl rfl k9 rfl ⟨Nat.le_of_ble_eq_true rfl, Nat.le_of_ble_eq_true rfl, Nat.le_of_ble_eq_true rfl, Nat.le_of_ble_eq_true rfl⟩ cs0 (Nat.le_of_ble_eq_true rfl) (con_X7_put a0 a1 ((67 + (29 * a7)) + a2) (r1 + s0) h2 _ hV) rfl (kV (k := 0) (n := 0) (fun h3 hV => ?_))
  refine r_iload hC dX7_takes_115 rfl ?_
  refine r_iload hC dX7_takes_117 rfl ?_
  refine r_isub hC dX7_takes_119 ?_
  refine r_istore (lo1 := [some (rv a0), some (.int a1), some (.int a2), some (.int a3), some (.int (a4 - s0)), some (.int a5), some (.int a6), some (.int a7), some (.int s0)]) hC dX7_takes_120 (Nat.le_of_ble_eq_true rfl) rfl ?_
  refine r_iload hC dX7_takes_122 rfl ?_
  refine r_iload hC dX7_takes_124 rfl ?_
  refine r_iload_n hC dX7_takes_126 rfl ?_
  refine r_icmp_ne (tgt := 134) hC dX7_takes_127 (by decide) (fun k9 => ?_) (fun k9 => ?_)
  · replace hV := hV.1 k9
    refine r_iload hC dX7_takes_134 rfl ?_
    refine r_sub (lo1 := [some (rv a0), some (.int a1), some (.int a2), some (.int a3), some (.int (a4 - s0)), none, some (.int a6), none, none]) ⟨Or.inr rfl, ⟨Or.inr rfl, ⟨Or.inr rfl, ⟨Or.inr rfl, ⟨Or.inr rfl, ⟨Or.inl rfl, ⟨Or.inr rfl, ⟨Or.inl rfl, ⟨Or.inl rfl, trivial⟩⟩⟩⟩⟩⟩⟩⟩⟩ ?_
    exact ok_X7_takes_136 hC hQ hC21 a0 a1 a2 a3 (a4 - s0) a6 a5 s0 h3 hV
  · replace hV := hV.2 k9
    refine r_iconst (v := 0) hC dX7_takes_130 (by decide) ?_
    refine r_goto (tgt := 136) hC dX7_takes_131 (by decide) ?_
    refine r_sub (lo1 := [some (rv a0), some (.int a1), some (.int a2), some (.int a3), some (.int (a4 - s0)), none, some (.int a6), none, none]) ⟨Or.inr rfl, ⟨Or.inr rfl, ⟨Or.inr rfl, ⟨Or.inr rfl, ⟨Or.inr rfl, ⟨Or.inl rfl, ⟨Or.inr rfl, ⟨Or.inl rfl, ⟨Or.inl rfl, trivial⟩⟩⟩⟩⟩⟩⟩⟩⟩ ?_
    exact ok_X7_takes_136 hC hQ hC21 a0 a1 a2 a3 (a4 - s0) a6 a5 0 h3 hV
set_option maxRecDepth 100000 in
set_option maxHeartbeats 4000000 in
theorem ok_X7_takes_43 {E : Ev} {X : Xt} {l0 : Launch} {K : Int32 → Hp → Prop} {C21 : Nat → Int32 → Int32 → Int32 → Int32 → Int32 → Int32 → Hp → Prop} (hC : Cx E X l0 RX7 cX7_takes 9 rm_X7_takes) (hQ : CQ E X "takes" (some .int) rm_X7_takes (KI K)) (hC21 : ∀ (a0 : Nat) (a1 : Int32) (a2 : Int32) (a3 : Int32) (a4 : Int32) (a5 : Int32) (a6 : Int32) (h : Hp), C21 a0 a1 a2 a3 a4 a5 a6 h → WW E X h 0 0 21 [some (rv a0), some (.int a1), some (.int a2), some (.int a3), some (.int a4), some (.int a5), some (.int a6), none, none] []) (a0 : Nat) (a1 : Int32) (a2 : Int32) (a3 : Int32) (a4 : Int32) (a5 : Int32) (a6 : Int32) (s0 : Int32) (h : Hp) (hV : V_X7_takes_43 K C21 a0 a1 a2 a3 a4 a5 a6 s0 h) : WW E X h 0 0 43 [some (rv a0), some (.int a1), some (.int a2), some (.int a3), some (.int a4), some (.int a5), some (.int a6), none, none] [.int s0] := by
  unfold V_X7_takes_43 at hV
  refine r_istore (lo1 := [some (rv a0), some (.int a1), some (.int a2), some (.int a3), some (.int a4), some (.int a5), some (.int a6), some (.int s0), none]) hC dX7_takes_43 (Nat.le_of_ble_eq_true rfl) rfl ?_
  refine r_iload hC dX7_takes_45 rfl ?_
  refine r_iload_n hC dX7_takes_47 rfl ?_
  refine r_icmp_ne (tgt := 55) hC dX7_takes_48 (by decide) (fun k9 => ?_) (fun k9 => ?_)
  · replace hV := hV.1 k9
    refine r_iload hC dX7_takes_55 rfl ?_
    refine r_aload_n hC dX7_takes_57 rfl ?_
    refine r_iload hC dX7_takes_58 rfl ?_
    refine r_iload_n hC dX7_takes_60 rfl ?_
    obtain ⟨k9, hV⟩ := hV
    refine r_callV (ci := 7) (As := [.int s0, .int a2]) hC dX7_takes_61 rfl cf_X7_has ml_7_79 im_X7_has sl_X7_has lq_7 rfl rfl k9 rfl ⟨Nat.le_of_ble_eq_true rfl, Nat.le_of_ble_eq_true rfl, Nat.le_of_ble_eq_true rfl, Nat.le_of_ble_eq_true rfl⟩ (csI cs0) (Nat.le_of_ble_eq_true rfl) (con_X7_has a0 s0 a2 h _ hV) rfl (kI (k := 0) (n := 0) (fun r1 h1 hV => ?_))
    refine r_callS (As := [.int a4, .int r1]) hC dX7_takes_64 rfl cf_X7_least ml_7_132 st_X7_least rfl ⟨Nat.le_of_ble_eq_true rfl, Nat.le_of_ble_eq_true rfl, Nat.le_of_ble_eq_true rfl, Nat.le_of_ble_eq_true rfl⟩ cs0 (Nat.le_of_ble_eq_true rfl) (con_X7_least a4 r1 h1 _ hV) rfl (kI (k := 0) (n := 0) (fun r2 h2 hV => ?_))
    exact ok_X7_takes_67 hC hQ hC21 a0 a1 a2 a3 a4 a5 a6 s0 r2 h2 hV
  · replace hV := hV.2 k9
    refine r_iconst (v := 0) hC dX7_takes_51 (by decide) ?_
    refine r_goto (tgt := 67) hC dX7_takes_52 (by decide) ?_
    exact ok_X7_takes_67 hC hQ hC21 a0 a1 a2 a3 a4 a5 a6 s0 0 h hV
set_option maxRecDepth 100000 in
set_option maxHeartbeats 4000000 in
theorem ok_X7_takes_21 {E : Ev} {X : Xt} {l0 : Launch} {K : Int32 → Hp → Prop} (hC : Cx E X l0 RX7 cX7_takes 9 rm_X7_takes) (hQ : CQ E X "takes" (some .int) rm_X7_takes (KI K)) : ∀ (n : Nat) (a0 : Nat) (a1 : Int32) (a2 : Int32) (a3 : Int32) (a4 : Int32) (a5 : Int32) (a6 : Int32) (h : Hp), V_X7_takes_21 K n a0 a1 a2 a3 a4 a5 a6 h → WW E X h 0 0 21 [some (rv a0), some (.int a1), some (.int a2), some (.int a3), some (.int a4), some (.int a5), some (.int a6), none, none] [] := by
  intro n
  induction n with
  | zero => intro a0 a1 a2 a3 a4 a5 a6 h hV; exact hV.elim
  | succ n ih =>
    intro a0 a1 a2 a3 a4 a5 a6 h hV
    unfold V_X7_takes_21 at hV
    refine r_iload hC dX7_takes_21 rfl ?_
    refine r_aload_n hC dX7_takes_23 rfl ?_
    obtain ⟨k9, hV⟩ := hV
    refine r_getR hC dX7_takes_24 fl_7_7 rf_7_0 lq_7 k9 ?_
    refine r_iconst (v := 0) hC dX7_takes_27 (by decide) ?_
    obtain ⟨k9, k8, hV⟩ := hV
    refine r_iald (kd := 60) hC dX7_takes_28 (by decide) rfl k9 k8 ?_
    refine r_icmp_ge (tgt := 145) hC dX7_takes_29 (by decide) (fun k9 => ?_) (fun k9 => ?_)
    · replace hV := hV.1 k9
      refine r_iload hC dX7_takes_145 rfl ?_
      exact r_iret hC hQ dX7_takes_147 (Nat.le_of_ble_eq_true rfl) (Nat.le_of_ble_eq_true rfl) ⟨_, rfl, hV⟩
    · replace hV := hV.2 k9
      refine r_iload hC dX7_takes_32 rfl ?_
      refine r_if_ge (tgt := 41) hC dX7_takes_34 (by decide) (fun k9 => ?_) (fun k9 => ?_)
      · replace hV := hV.1 k9
        refine r_iload hC dX7_takes_41 rfl ?_
        exact ok_X7_takes_43 hC hQ ih a0 a1 a2 a3 a4 a5 a6 a6 h hV
      · replace hV := hV.2 k9
        refine r_iload_n hC dX7_takes_37 rfl ?_
        refine r_goto (tgt := 43) hC dX7_takes_38 (by decide) ?_
        exact ok_X7_takes_43 hC hQ ih a0 a1 a2 a3 a4 a5 a6 a3 h hV
set_option maxRecDepth 100000 in
set_option maxHeartbeats 4000000 in
theorem ok_X7_takes_0 {E : Ev} {X : Xt} {l0 : Launch} {K : Int32 → Hp → Prop} (hC : Cx E X l0 RX7 cX7_takes 9 rm_X7_takes) (hQ : CQ E X "takes" (some .int) rm_X7_takes (KI K)) (a0 : Nat) (a1 : Int32) (a2 : Int32) (h : Hp) (hV : V_X7_takes a0 a1 a2 h K) : WW E X h 0 0 0 [some (rv a0), some (.int a1), some (.int a2), none, none, none, none, none, none] [] := by
  unfold V_X7_takes at hV
  refine r_aload_n hC dX7_takes_0 rfl ?_
  refine r_iload_n hC dX7_takes_1 rfl ?_
  refine r_iconst (v := 0) hC dX7_takes_2 (by decide) ?_
  obtain ⟨k9, hV⟩ := hV
  refine r_callV (ci := 7) (As := [.int a1, .int 0]) hC dX7_takes_3 rfl cf_X7_ofJob ml_7_60 im_X7_ofJob sl_X7_ofJob lq_7 rfl rfl k9 rfl ⟨Nat.le_of_ble_eq_true rfl, Nat.le_of_ble_eq_true rfl, Nat.le_of_ble_eq_true rfl, Nat.le_of_ble_eq_true rfl⟩ cs0 (Nat.le_of_ble_eq_true rfl) (con_X7_ofJob a0 a1 0 h _ hV) rfl (kI (k := 0) (n := 0) (fun r1 h1 hV => ?_))
  refine r_istore_n (lo1 := [some (rv a0), some (.int a1), some (.int a2), some (.int r1), none, none, none, none, none]) hC dX7_takes_6 (Nat.le_of_ble_eq_true rfl) rfl ?_
  refine r_aload_n hC dX7_takes_7 rfl ?_
  obtain ⟨k9, hV⟩ := hV
  refine r_getR hC dX7_takes_8 fl_7_37 rf_7_17 lq_7 k9 ?_
  refine r_iload_n hC dX7_takes_11 rfl ?_
  obtain ⟨k9, k8, hV⟩ := hV
  refine r_iald (kd := 77) hC dX7_takes_12 (by decide) rfl k9 k8 ?_
  refine r_istore (lo1 := [some (rv a0), some (.int a1), some (.int a2), some (.int r1), some (.int (hI h1 (hR h1 a0 17) (ix a2))), none, none, none, none]) hC dX7_takes_13 (Nat.le_of_ble_eq_true rfl) rfl ?_
  refine r_iconst (v := 0) hC dX7_takes_15 (by decide) ?_
  refine r_istore (lo1 := [some (rv a0), some (.int a1), some (.int a2), some (.int r1), some (.int (hI h1 (hR h1 a0 17) (ix a2))), some (.int 0), none, none, none]) hC dX7_takes_16 (Nat.le_of_ble_eq_true rfl) rfl ?_
  refine r_iconst (v := (-1)) hC dX7_takes_18 (by decide) ?_
  refine r_istore (lo1 := [some (rv a0), some (.int a1), some (.int a2), some (.int r1), some (.int (hI h1 (hR h1 a0 17) (ix a2))), some (.int 0), some (.int (-1)), none, none]) hC dX7_takes_19 (Nat.le_of_ble_eq_true rfl) rfl ?_
  obtain ⟨n9, hV⟩ := hV
  exact ok_X7_takes_21 hC hQ n9 a0 a1 a2 r1 (hI h1 (hR h1 a0 17) (ix a2)) 0 (-1) h1 hV
set_option maxRecDepth 100000 in
set_option maxHeartbeats 4000000 in
theorem con_X7_takes {E : Ev} {l0 : Launch} (a0 : Nat) (a1 : Int32) (a2 : Int32) (h : Hp) (K : Int32 → Hp → Prop) (hV : V_X7_takes a0 a1 a2 h K) : Con E l0 yX7_takes cX7_takes 9 (some .int) rm_X7_takes [rv a0, .int a1, .int a2] h (KI K) := by
  refine Con.of (by decide +kernel) (cat_R (cat_I (cat_I cat_nil))) (Nat.le_of_ble_eq_true rfl) (fun X hC hQ => ?_)
  refine r_sub (lo1 := [some (rv a0), some (.int a1), some (.int a2), none, none, none, none, none, none]) (show lsub [some (rv a0), some (.int a1), some (.int a2), none, none, none, none, none, none] _ from ⟨Or.inr rfl, ⟨Or.inr rfl, ⟨Or.inr rfl, ⟨Or.inr rfl, ⟨Or.inr rfl, ⟨Or.inr rfl, ⟨Or.inr rfl, ⟨Or.inr rfl, ⟨Or.inr rfl, trivial⟩⟩⟩⟩⟩⟩⟩⟩⟩) ?_
  exact ok_X7_takes_0 hC hQ a0 a1 a2 h hV
theorem dX7_set_0 : decode cX7_set 0 = .ok (.aload_n 0, 1) := by decide +kernel
theorem dX7_set_1 : decode cX7_set 1 = .ok (.iload_n 1, 1) := by decide +kernel
theorem dX7_set_2 : decode cX7_set 2 = .ok (.invokevirtual 144, 3) := by decide +kernel
theorem dX7_set_5 : decode cX7_set 5 = .ok (.ifCond .eq 5, 3) := by decide +kernel
theorem dX7_set_8 : decode cX7_set 8 = .ok (.iconst (-1), 1) := by decide +kernel
theorem dX7_set_9 : decode cX7_set 9 = .ok (.ireturn, 1) := by decide +kernel
theorem dX7_set_10 : decode cX7_set 10 = .ok (.aload_n 0, 1) := by decide +kernel
theorem dX7_set_11 : decode cX7_set 11 = .ok (.iload_n 1, 1) := by decide +kernel
theorem dX7_set_12 : decode cX7_set 12 = .ok (.iconst 3, 1) := by decide +kernel
theorem dX7_set_13 : decode cX7_set 13 = .ok (.invokevirtual 60, 3) := by decide +kernel
theorem dX7_set_16 : decode cX7_set 16 = .ok (.ifCond .eq 6, 3) := by decide +kernel
theorem dX7_set_19 : decode cX7_set 19 = .ok (.bipush (-4), 2) := by decide +kernel
theorem dX7_set_21 : decode cX7_set 21 = .ok (.ireturn, 1) := by decide +kernel
theorem dX7_set_22 : decode cX7_set 22 = .ok (.aload_n 0, 1) := by decide +kernel
theorem dX7_set_23 : decode cX7_set 23 = .ok (.iload_n 1, 1) := by decide +kernel
theorem dX7_set_24 : decode cX7_set 24 = .ok (.invokevirtual 147, 3) := by decide +kernel
theorem dX7_set_27 : decode cX7_set 27 = .ok (.aload_n 0, 1) := by decide +kernel
theorem dX7_set_28 : decode cX7_set 28 = .ok (.invokevirtual 150, 3) := by decide +kernel
theorem dX7_set_31 : decode cX7_set 31 = .ok (.ifCond .le 6, 3) := by decide +kernel
theorem dX7_set_34 : decode cX7_set 34 = .ok (.bipush (-4), 2) := by decide +kernel
theorem dX7_set_36 : decode cX7_set 36 = .ok (.ireturn, 1) := by decide +kernel
theorem dX7_set_37 : decode cX7_set 37 = .ok (.aload_n 0, 1) := by decide +kernel
theorem dX7_set_38 : decode cX7_set 38 = .ok (.invokevirtual 65, 3) := by decide +kernel
theorem dX7_set_41 : decode cX7_set 41 = .ok (.iconst 0, 1) := by decide +kernel
theorem dX7_set_42 : decode cX7_set 42 = .ok (.istore_n 2, 1) := by decide +kernel
theorem dX7_set_43 : decode cX7_set 43 = .ok (.iconst 0, 1) := by decide +kernel
theorem dX7_set_44 : decode cX7_set 44 = .ok (.istore_n 3, 1) := by decide +kernel
theorem dX7_set_45 : decode cX7_set 45 = .ok (.iload_n 3, 1) := by decide +kernel
theorem dX7_set_46 : decode cX7_set 46 = .ok (.bipush 29, 2) := by decide +kernel
theorem dX7_set_48 : decode cX7_set 48 = .ok (.if_icmp .ge 18, 3) := by decide +kernel
theorem dX7_set_51 : decode cX7_set 51 = .ok (.iload_n 2, 1) := by decide +kernel
theorem dX7_set_52 : decode cX7_set 52 = .ok (.aload_n 0, 1) := by decide +kernel
theorem dX7_set_53 : decode cX7_set 53 = .ok (.iload_n 1, 1) := by decide +kernel
theorem dX7_set_54 : decode cX7_set 54 = .ok (.iload_n 3, 1) := by decide +kernel
theorem dX7_set_55 : decode cX7_set 55 = .ok (.invokevirtual 153, 3) := by decide +kernel
theorem dX7_set_58 : decode cX7_set 58 = .ok (.iadd, 1) := by decide +kernel
theorem dX7_set_59 : decode cX7_set 59 = .ok (.istore_n 2, 1) := by decide +kernel
theorem dX7_set_60 : decode cX7_set 60 = .ok (.iinc 3 1, 3) := by decide +kernel
theorem dX7_set_63 : decode cX7_set 63 = .ok (.goto (-18), 3) := by decide +kernel
theorem dX7_set_66 : decode cX7_set 66 = .ok (.iconst 0, 1) := by decide +kernel
theorem dX7_set_67 : decode cX7_set 67 = .ok (.istore_n 3, 1) := by decide +kernel
theorem dX7_set_68 : decode cX7_set 68 = .ok (.iload_n 3, 1) := by decide +kernel
theorem dX7_set_69 : decode cX7_set 69 = .ok (.aload_n 0, 1) := by decide +kernel
theorem dX7_set_70 : decode cX7_set 70 = .ok (.getfield 109, 3) := by decide +kernel
theorem dX7_set_73 : decode cX7_set 73 = .ok (.if_icmp .ge 46, 3) := by decide +kernel
theorem dX7_set_76 : decode cX7_set 76 = .ok (.aload_n 0, 1) := by decide +kernel
theorem dX7_set_77 : decode cX7_set 77 = .ok (.iload_n 1, 1) := by decide +kernel
theorem dX7_set_78 : decode cX7_set 78 = .ok (.sipush 241, 3) := by decide +kernel
theorem dX7_set_81 : decode cX7_set 81 = .ok (.iload_n 3, 1) := by decide +kernel
theorem dX7_set_82 : decode cX7_set 82 = .ok (.iadd, 1) := by decide +kernel
theorem dX7_set_83 : decode cX7_set 83 = .ok (.ldc 156, 2) := by decide +kernel
theorem dX7_set_85 : decode cX7_set 85 = .ok (.aload_n 0, 1) := by decide +kernel
theorem dX7_set_86 : decode cX7_set 86 = .ok (.getfield 43, 3) := by decide +kernel
theorem dX7_set_89 : decode cX7_set 89 = .ok (.iload_n 3, 1) := by decide +kernel
theorem dX7_set_90 : decode cX7_set 90 = .ok (.iaload, 1) := by decide +kernel
theorem dX7_set_91 : decode cX7_set 91 = .ok (.imul, 1) := by decide +kernel
theorem dX7_set_92 : decode cX7_set 92 = .ok (.sipush 1000, 3) := by decide +kernel
theorem dX7_set_95 : decode cX7_set 95 = .ok (.aload_n 0, 1) := by decide +kernel
theorem dX7_set_96 : decode cX7_set 96 = .ok (.getfield 46, 3) := by decide +kernel
theorem dX7_set_99 : decode cX7_set 99 = .ok (.iload_n 3, 1) := by decide +kernel
theorem dX7_set_100 : decode cX7_set 100 = .ok (.iaload, 1) := by decide +kernel
theorem dX7_set_101 : decode cX7_set 101 = .ok (.imul, 1) := by decide +kernel
theorem dX7_set_102 : decode cX7_set 102 = .ok (.iadd, 1) := by decide +kernel
theorem dX7_set_103 : decode cX7_set 103 = .ok (.aload_n 0, 1) := by decide +kernel
theorem dX7_set_104 : decode cX7_set 104 = .ok (.getfield 49, 3) := by decide +kernel
theorem dX7_set_107 : decode cX7_set 107 = .ok (.iload_n 3, 1) := by decide +kernel
theorem dX7_set_108 : decode cX7_set 108 = .ok (.iaload, 1) := by decide +kernel
theorem dX7_set_109 : decode cX7_set 109 = .ok (.iadd, 1) := by decide +kernel
theorem dX7_set_110 : decode cX7_set 110 = .ok (.invokevirtual 141, 3) := by decide +kernel
theorem dX7_set_113 : decode cX7_set 113 = .ok (.iinc 3 1, 3) := by decide +kernel
theorem dX7_set_116 : decode cX7_set 116 = .ok (.goto (-48), 3) := by decide +kernel
theorem dX7_set_119 : decode cX7_set 119 = .ok (.aload_n 0, 1) := by decide +kernel
theorem dX7_set_120 : decode cX7_set 120 = .ok (.iload_n 1, 1) := by decide +kernel
theorem dX7_set_121 : decode cX7_set 121 = .ok (.iconst 3, 1) := by decide +kernel
theorem dX7_set_122 : decode cX7_set 122 = .ok (.iconst 1, 1) := by decide +kernel
theorem dX7_set_123 : decode cX7_set 123 = .ok (.invokevirtual 141, 3) := by decide +kernel
theorem dX7_set_126 : decode cX7_set 126 = .ok (.iload_n 2, 1) := by decide +kernel
theorem dX7_set_127 : decode cX7_set 127 = .ok (.ireturn, 1) := by decide +kernel
def rm_X7_set : Room := { frames := 6, cells := 0, slots := 0, locals := 137 }
set_option maxRecDepth 100000 in
set_option maxHeartbeats 4000000 in
theorem ok_X7_set_68 {E : Ev} {X : Xt} {l0 : Launch} {K : Int32 → Hp → Prop} (hC : Cx E X l0 RX7 cX7_set 4 rm_X7_set) (hQ : CQ E X "set" (some .int) rm_X7_set (KI K)) : ∀ (n : Nat) (a0 : Nat) (a1 : Int32) (a2 : Int32) (a3 : Int32) (h : Hp), V_X7_set_68 K n a0 a1 a2 a3 h → WW E X h 0 0 68 [some (rv a0), some (.int a1), some (.int a2), some (.int a3)] [] := by
  intro n
  induction n with
  | zero => intro a0 a1 a2 a3 h hV; exact hV.elim
  | succ n ih =>
    intro a0 a1 a2 a3 h hV
    unfold V_X7_set_68 at hV
    refine r_iload_n hC dX7_set_68 rfl ?_
    refine r_aload_n hC dX7_set_69 rfl ?_
    obtain ⟨k9, hV⟩ := hV
    refine r_getI hC dX7_set_70 fl_7_109 rf_7_11 lq_7 k9 ?_
    refine r_icmp_ge (tgt := 119) hC dX7_set_73 (by decide) (fun k9 => ?_) (fun k9 => ?_)
    · replace hV := hV.1 k9
      refine r_aload_n hC dX7_set_119 rfl ?_
      refine r_iload_n hC dX7_set_120 rfl ?_
      refine r_iconst (v := 3) hC dX7_set_121 (by decide) ?_
      refine r_iconst (v := 1) hC dX7_set_122 (by decide) ?_
      obtain ⟨k9, hV⟩ := hV
      refine r_callV (ci := 7) (As := [.int a1, .int 3, .int 1]) hC dX7_set_123 rfl cf_X7_put ml_7_141 im_X7_put sl_X7_put lq_7 rfl rfl k9 rfl ⟨Nat.le_of_ble_eq_true rfl, Nat.le_of_ble_eq_true rfl, Nat.le_of_ble_eq_true rfl, Nat.le_of_ble_eq_true rfl⟩ cs0 (Nat.le_of_ble_eq_true rfl) (con_X7_put a0 a1 3 1 h _ hV) rfl (kV (k := 0) (n := 0) (fun h1 hV => ?_))
      refine r_iload_n hC dX7_set_126 rfl ?_
      exact r_iret hC hQ dX7_set_127 (Nat.le_of_ble_eq_true rfl) (Nat.le_of_ble_eq_true rfl) ⟨_, rfl, hV⟩
    · replace hV := hV.2 k9
      refine r_aload_n hC dX7_set_76 rfl ?_
      refine r_iload_n hC dX7_set_77 rfl ?_
      refine r_sipush (v := 241) hC dX7_set_78 (by decide) ?_
      refine r_iload_n hC dX7_set_81 rfl ?_
      refine r_iadd hC dX7_set_82 ?_
      refine r_ldc (v := 1000000) hC dX7_set_83 kc_7_156 ?_
      refine r_aload_n hC dX7_set_85 rfl ?_
      obtain ⟨k9, hV⟩ := hV
      refine r_getR hC dX7_set_86 fl_7_43 rf_7_19 lq_7 k9 ?_
      refine r_iload_n hC dX7_set_89 rfl ?_
      obtain ⟨k9, k8, hV⟩ := hV
      refine r_iald (kd := 79) hC dX7_set_90 (by decide) rfl k9 k8 ?_
      refine r_imul hC dX7_set_91 ?_
      refine r_sipush (v := 1000) hC dX7_set_92 (by decide) ?_
      refine r_aload_n hC dX7_set_95 rfl ?_
      obtain ⟨k9, hV⟩ := hV
      refine r_getR hC dX7_set_96 fl_7_46 rf_7_20 lq_7 k9 ?_
      refine r_iload_n hC dX7_set_99 rfl ?_
      obtain ⟨k9, k8, hV⟩ := hV
      refine r_iald (kd := 80) hC dX7_set_100 (by decide) rfl k9 k8 ?_
      refine r_imul hC dX7_set_101 ?_
      refine r_iadd hC dX7_set_102 ?_
      refine r_aload_n hC dX7_set_103 rfl ?_
      obtain ⟨k9, hV⟩ := hV
      refine r_getR hC dX7_set_104 fl_7_49 rf_7_21 lq_7 k9 ?_
      refine r_iload_n hC dX7_set_107 rfl ?_
      obtain ⟨k9, k8, hV⟩ := hV
      refine r_iald (kd := 81) hC dX7_set_108 (by decide) rfl k9 k8 ?_
      refine r_iadd hC dX7_set_109 ?_
      obtain ⟨k9, hV⟩ := hV
      refine r_callV (ci := 7) (As := [.int a1, .int (241 + a3), .int (((1000000 * (hI h (hR h a0 19) (ix a3))) + (1000 * (hI h (hR h a0 20) (ix a3)))) + (hI h (hR h a0 21) (ix a3)))]) hC dX7_set_110 rfl cf_X7_put ml_7_141 im_X7_put sl_X7_put lq_7 rfl rfl k9 rfl ⟨Nat.le_of_ble_eq_true rfl, Nat.le_of_ble_eq_true rfl, Nat.le_of_ble_eq_true rfl, Nat.le_of_ble_eq_true rfl⟩ cs0 (Nat.le_of_ble_eq_true rfl) (con_X7_put a0 a1 (241 + a3) (((1000000 * (hI h (hR h a0 19) (ix a3))) + (1000 * (hI h (hR h a0 20) (ix a3)))) + (hI h (hR h a0 21) (ix a3))) h _ hV) rfl (kV (k := 0) (n := 0) (fun h1 hV => ?_))
      refine r_iinc (v := 1) (lo1 := [some (rv a0), some (.int a1), some (.int a2), some (.int (a3 + 1))]) hC dX7_set_113 rfl (by decide) rfl ?_
      refine r_goto (tgt := 68) hC dX7_set_116 (by decide) ?_
      exact ih a0 a1 a2 (a3 + 1) h1 hV
set_option maxRecDepth 100000 in
set_option maxHeartbeats 4000000 in
theorem ok_X7_set_45 {E : Ev} {X : Xt} {l0 : Launch} {K : Int32 → Hp → Prop} (hC : Cx E X l0 RX7 cX7_set 4 rm_X7_set) (hQ : CQ E X "set" (some .int) rm_X7_set (KI K)) : ∀ (n : Nat) (a0 : Nat) (a1 : Int32) (a2 : Int32) (a3 : Int32) (h : Hp), V_X7_set_45 K n a0 a1 a2 a3 h → WW E X h 0 0 45 [some (rv a0), some (.int a1), some (.int a2), some (.int a3)] [] := by
  intro n
  induction n with
  | zero => intro a0 a1 a2 a3 h hV; exact hV.elim
  | succ n ih =>
    intro a0 a1 a2 a3 h hV
    unfold V_X7_set_45 at hV
    refine r_iload_n hC dX7_set_45 rfl ?_
    refine r_bipush (v := 29) hC dX7_set_46 (by decide) ?_
    refine r_icmp_ge (tgt := 66) hC dX7_set_48 (by decide) (fun k9 => ?_) (fun k9 => ?_)
    · replace hV := hV.1 k9
      refine r_iconst (v := 0) hC dX7_set_66 (by decide) ?_
      refine r_istore_n (lo1 := [some (rv a0), some (.int a1), some (.int a2), some (.int 0)]) hC dX7_set_67 (Nat.le_of_ble_eq_true rfl) rfl ?_
      obtain ⟨n9, hV⟩ := hV
      exact ok_X7_set_68 hC hQ n9 a0 a1 a2 0 h hV
    · replace hV := hV.2 k9
      refine r_iload_n hC dX7_set_51 rfl ?_
      refine r_aload_n hC dX7_set_52 rfl ?_
      refine r_iload_n hC dX7_set_53 rfl ?_
      refine r_iload_n hC dX7_set_54 rfl ?_
      obtain ⟨k9, hV⟩ := hV
      refine r_callV (ci := 7) (As := [.int a1, .int a3]) hC dX7_set_55 rfl cf_X7_takes ml_7_153 im_X7_takes sl_X7_takes lq_7 rfl rfl k9 rfl ⟨Nat.le_of_ble_eq_true rfl, Nat.le_of_ble_eq_true rfl, Nat.le_of_ble_eq_true rfl, Nat.le_of_ble_eq_true rfl⟩ (csI cs0) (Nat.le_of_ble_eq_true rfl) (con_X7_takes a0 a1 a3 h _ hV) rfl (kI (k := 0) (n := 0) (fun r1 h1 hV => ?_))
      refine r_iadd hC dX7_set_58 ?_
      refine r_istore_n (lo1 := [some (rv a0), some (.int a1), some (.int (a2 + r1)), some (.int a3)]) hC dX7_set_59 (Nat.le_of_ble_eq_true rfl) rfl ?_
      refine r_iinc (v := 1) (lo1 := [some (rv a0), some (.int a1), some (.int (a2 + r1)), some (.int (a3 + 1))]) hC dX7_set_60 rfl (by decide) rfl ?_
      refine r_goto (tgt := 45) hC dX7_set_63 (by decide) ?_
      exact ih a0 a1 (a2 + r1) (a3 + 1) h1 hV
set_option maxRecDepth 100000 in
set_option maxHeartbeats 4000000 in
theorem ok_X7_set_0 {E : Ev} {X : Xt} {l0 : Launch} {K : Int32 → Hp → Prop} (hC : Cx E X l0 RX7 cX7_set 4 rm_X7_set) (hQ : CQ E X "set" (some .int) rm_X7_set (KI K)) (a0 : Nat) (a1 : Int32) (h : Hp) (hV : V_X7_set a0 a1 h K) : WW E X h 0 0 0 [some (rv a0), some (.int a1), none, none] [] := by
  unfold V_X7_set at hV
  refine r_aload_n hC dX7_set_0 rfl ?_
  refine r_iload_n hC dX7_set_1 rfl ?_
  obtain ⟨k9, hV⟩ := hV
  refine r_callV (ci := 7) (As := [.int a1]) hC dX7_set_2 rfl cf_X7_noJob ml_7_144 im_X7_noJob sl_X7_noJob lq_7 rfl rfl k9 rfl ⟨Nat.le_of_ble_eq_true rfl, Nat.le_of_ble_eq_true rfl, Nat.le_of_ble_eq_true rfl, Nat.le_of_ble_eq_true rfl⟩ cs0 (Nat.le_of_ble_eq_true rfl) (con_X7_noJob a0 a1 h _ hV) rfl (kI (k := 0) (n := 0) (fun r1 h1 hV => ?_))
  refine r_if_eq (tgt := 10) hC dX7_set_5 (by decide) (fun k9 => ?_) (fun k9 => ?_)
  · replace hV := hV.1 k9
    refine r_aload_n hC dX7_set_10 rfl ?_
    refine r_iload_n hC dX7_set_11 rfl ?_
    refine r_iconst (v := 3) hC dX7_set_12 (by decide) ?_
    obtain ⟨k9, hV⟩ := hV
    refine r_callV (ci := 7) (As := [.int a1, .int 3]) hC dX7_set_13 rfl cf_X7_ofJob ml_7_60 im_X7_ofJob sl_X7_ofJob lq_7 rfl rfl k9 rfl ⟨Nat.le_of_ble_eq_true rfl, Nat.le_of_ble_eq_true rfl, Nat.le_of_ble_eq_true rfl, Nat.le_of_ble_eq_true rfl⟩ cs0 (Nat.le_of_ble_eq_true rfl) (con_X7_ofJob a0 a1 3 h1 _ hV) rfl (kI (k := 0) (n := 0) (fun r2 h2 hV => ?_))
    refine r_if_eq (tgt := 22) hC dX7_set_16 (by decide) (fun k9 => ?_) (fun k9 => ?_)
    · replace hV := hV.1 k9
      refine r_aload_n hC dX7_set_22 rfl ?_
      refine r_iload_n hC dX7_set_23 rfl ?_
      obtain ⟨k9, hV⟩ := hV
      refine r_callV (ci := 7) (As := [.int a1]) hC dX7_set_24 rfl cf_X7_layNeeds ml_7_147 im_X7_layNeeds sl_X7_layNeeds lq_7 rfl rfl k9 rfl ⟨Nat.le_of_ble_eq_true rfl, Nat.le_of_ble_eq_true rfl, Nat.le_of_ble_eq_true rfl, Nat.le_of_ble_eq_true rfl⟩ cs0 (Nat.le_of_ble_eq_true rfl) (con_X7_layNeeds a0 a1 h2 _ hV) rfl (kV (k := 0) (n := 0) (fun h3 hV => ?_))
      refine r_aload_n hC dX7_set_27 rfl ?_
      obtain ⟨k9, hV⟩ := hV
      refine r_callV (ci := 7) (As := []) hC dX7_set_28 rfl cf_X7_allLacks ml_7_150 im_X7_allLacks sl_X7_allLacks lq_7 rfl rfl k9 rfl ⟨Nat.le_of_ble_eq_true rfl, Nat.le_of_ble_eq_true rfl, Nat.le_of_ble_eq_true rfl, Nat.le_of_ble_eq_true rfl⟩ cs0 (Nat.le_of_ble_eq_true rfl) (con_X7_allLacks a0 h3 _ hV) rfl (kI (k := 0) (n := 0) (fun r3 h4 hV => ?_))
      refine r_if_le (tgt := 37) hC dX7_set_31 (by decide) (fun k9 => ?_) (fun k9 => ?_)
      · replace hV := hV.1 k9
        refine r_aload_n hC dX7_set_37 rfl ?_
        obtain ⟨k9, hV⟩ := hV
        refine r_callV (ci := 7) (As := []) hC dX7_set_38 rfl cf_X7_record ml_7_65 im_X7_record sl_X7_record lq_7 rfl rfl k9 rfl ⟨Nat.le_of_ble_eq_true rfl, Nat.le_of_ble_eq_true rfl, Nat.le_of_ble_eq_true rfl, Nat.le_of_ble_eq_true rfl⟩ cs0 (Nat.le_of_ble_eq_true rfl) (con_X7_record a0 h4 _ hV) rfl (kV (k := 0) (n := 0) (fun h5 hV => ?_))
        refine r_iconst (v := 0) hC dX7_set_41 (by decide) ?_
        refine r_istore_n (lo1 := [some (rv a0), some (.int a1), some (.int 0), none]) hC dX7_set_42 (Nat.le_of_ble_eq_true rfl) rfl ?_
        refine r_iconst (v := 0) hC dX7_set_43 (by decide) ?_
        refine r_istore_n (lo1 := [some (rv a0), some (.int a1), some (.int 0), some (.int 0)]) hC dX7_set_44 (Nat.le_of_ble_eq_true rfl) rfl ?_
        obtain ⟨n9, hV⟩ := hV
        exact ok_X7_set_45 hC hQ n9 a0 a1 0 0 h5 hV
      · replace hV := hV.2 k9
        refine r_bipush (v := (-4)) hC dX7_set_34 (by decide) ?_
        exact r_iret hC hQ dX7_set_36 (Nat.le_of_ble_eq_true rfl) (Nat.le_of_ble_eq_true rfl) ⟨_, rfl, hV⟩
    · replace hV := hV.2 k9
      refine r_bipush (v := (-4)) hC dX7_set_19 (by decide) ?_
      exact r_iret hC hQ dX7_set_21 (Nat.le_of_ble_eq_true rfl) (Nat.le_of_ble_eq_true rfl) ⟨_, rfl, hV⟩
  · replace hV := hV.2 k9
    refine r_iconst (v := (-1)) hC dX7_set_8 (by decide) ?_
    exact r_iret hC hQ dX7_set_9 (Nat.le_of_ble_eq_true rfl) (Nat.le_of_ble_eq_true rfl) ⟨_, rfl, hV⟩
set_option maxRecDepth 100000 in
set_option maxHeartbeats 4000000 in
theorem con_X7_set {E : Ev} {l0 : Launch} (a0 : Nat) (a1 : Int32) (h : Hp) (K : Int32 → Hp → Prop) (hV : V_X7_set a0 a1 h K) : Con E l0 yX7_set cX7_set 4 (some .int) rm_X7_set [rv a0, .int a1] h (KI K) := by
  refine Con.of (by decide +kernel) (cat_R (cat_I cat_nil)) (Nat.le_of_ble_eq_true rfl) (fun X hC hQ => ?_)
  refine r_sub (lo1 := [some (rv a0), some (.int a1), none, none]) (show lsub [some (rv a0), some (.int a1), none, none] _ from ⟨Or.inr rfl, ⟨Or.inr rfl, ⟨Or.inr rfl, ⟨Or.inr rfl, trivial⟩⟩⟩⟩) ?_
  exact ok_X7_set_0 hC hQ a0 a1 h hV
theorem dX7_taken_0 : decode cX7_taken 0 = .ok (.aload_n 0, 1) := by decide +kernel
theorem dX7_taken_1 : decode cX7_taken 1 = .ok (.iload_n 1, 1) := by decide +kernel
theorem dX7_taken_2 : decode cX7_taken 2 = .ok (.invokevirtual 144, 3) := by decide +kernel
theorem dX7_taken_5 : decode cX7_taken 5 = .ok (.ifCond .ne 18, 3) := by decide +kernel
theorem dX7_taken_8 : decode cX7_taken 8 = .ok (.aload_n 0, 1) := by decide +kernel
theorem dX7_taken_9 : decode cX7_taken 9 = .ok (.iload_n 2, 1) := by decide +kernel
theorem dX7_taken_10 : decode cX7_taken 10 = .ok (.invokevirtual 72, 3) := by decide +kernel
theorem dX7_taken_13 : decode cX7_taken 13 = .ok (.ifCond .ne 10, 3) := by decide +kernel
theorem dX7_taken_16 : decode cX7_taken 16 = .ok (.iload_n 3, 1) := by decide +kernel
theorem dX7_taken_17 : decode cX7_taken 17 = .ok (.invokestatic 76, 3) := by decide +kernel
theorem dX7_taken_20 : decode cX7_taken 20 = .ok (.ifCond .eq 5, 3) := by decide +kernel
theorem dX7_taken_23 : decode cX7_taken 23 = .ok (.iconst (-1), 1) := by decide +kernel
theorem dX7_taken_24 : decode cX7_taken 24 = .ok (.ireturn, 1) := by decide +kernel
theorem dX7_taken_25 : decode cX7_taken 25 = .ok (.aload_n 0, 1) := by decide +kernel
theorem dX7_taken_26 : decode cX7_taken 26 = .ok (.iload_n 1, 1) := by decide +kernel
theorem dX7_taken_27 : decode cX7_taken 27 = .ok (.iload_n 2, 1) := by decide +kernel
theorem dX7_taken_28 : decode cX7_taken 28 = .ok (.iload_n 3, 1) := by decide +kernel
theorem dX7_taken_29 : decode cX7_taken 29 = .ok (.invokevirtual 128, 3) := by decide +kernel
theorem dX7_taken_32 : decode cX7_taken 32 = .ok (.ireturn, 1) := by decide +kernel
def rm_X7_taken : Room := { frames := 2, cells := 0, slots := 0, locals := 45 }
set_option maxRecDepth 100000 in
set_option maxHeartbeats 4000000 in
theorem ok_X7_taken_23 {E : Ev} {X : Xt} {l0 : Launch} {K : Int32 → Hp → Prop} (hC : Cx E X l0 RX7 cX7_taken 4 rm_X7_taken) (hQ : CQ E X "taken" (some .int) rm_X7_taken (KI K)) (h : Hp) (hV : V_X7_taken_23 K  h) : WW E X h 0 0 23 [none, none, none, none] [] := by
  unfold V_X7_taken_23 at hV
  refine r_iconst (v := (-1)) hC dX7_taken_23 (by decide) ?_
  exact r_iret hC hQ dX7_taken_24 (Nat.le_of_ble_eq_true rfl) (Nat.le_of_ble_eq_true rfl) ⟨_, rfl, hV⟩
set_option maxRecDepth 100000 in
set_option maxHeartbeats 4000000 in
theorem ok_X7_taken_0 {E : Ev} {X : Xt} {l0 : Launch} {K : Int32 → Hp → Prop} (hC : Cx E X l0 RX7 cX7_taken 4 rm_X7_taken) (hQ : CQ E X "taken" (some .int) rm_X7_taken (KI K)) (a0 : Nat) (a1 : Int32) (a2 : Int32) (a3 : Int32) (h : Hp) (hV : V_X7_taken a0 a1 a2 a3 h K) : WW E X h 0 0 0 [some (rv a0), some (.int a1), some (.int a2), some (.int a3)] [] := by
  unfold V_X7_taken at hV
  refine r_aload_n hC dX7_taken_0 rfl ?_
  refine r_iload_n hC dX7_taken_1 rfl ?_
  obtain ⟨k9, hV⟩ := hV
  refine r_callV (ci := 7) (As := [.int a1]) hC dX7_taken_2 rfl cf_X7_noJob ml_7_144 im_X7_noJob sl_X7_noJob lq_7 rfl rfl k9 rfl ⟨Nat.le_of_ble_eq_true rfl, Nat.le_of_ble_eq_true rfl, Nat.le_of_ble_eq_true rfl, Nat.le_of_ble_eq_true rfl⟩ cs0 (Nat.le_of_ble_eq_true rfl) (con_X7_noJob a0 a1 h _ hV) rfl (kI (k := 0) (n := 0) (fun r1 h1 hV => ?_))
  refine r_if_ne (tgt := 23) hC dX7_taken_5 (by decide) (fun k9 => ?_) (fun k9 => ?_)
  · replace hV := hV.1 k9
    refine r_sub (lo1 := [none, none, none, none]) ⟨Or.inl rfl, ⟨Or.inl rfl, ⟨Or.inl rfl, ⟨Or.inl rfl, trivial⟩⟩⟩⟩ ?_
    exact ok_X7_taken_23 hC hQ  h1 hV
  · replace hV := hV.2 k9
    refine r_aload_n hC dX7_taken_8 rfl ?_
    refine r_iload_n hC dX7_taken_9 rfl ?_
    obtain ⟨k9, hV⟩ := hV
    refine r_callV (ci := 7) (As := [.int a2]) hC dX7_taken_10 rfl cf_X7_noCase ml_7_72 im_X7_noCase sl_X7_noCase lq_7 rfl rfl k9 rfl ⟨Nat.le_of_ble_eq_true rfl, Nat.le_of_ble_eq_true rfl, Nat.le_of_ble_eq_true rfl, Nat.le_of_ble_eq_true rfl⟩ cs0 (Nat.le_of_ble_eq_true rfl) (con_X7_noCase a0 a2 h1 _ hV) rfl (kI (k := 0) (n := 0) (fun r2 h2 hV => ?_))
    refine r_if_ne (tgt := 23) hC dX7_taken_13 (by decide) (fun k9 => ?_) (fun k9 => ?_)
    · replace hV := hV.1 k9
      refine r_sub (lo1 := [none, none, none, none]) ⟨Or.inl rfl, ⟨Or.inl rfl, ⟨Or.inl rfl, ⟨Or.inl rfl, trivial⟩⟩⟩⟩ ?_
      exact ok_X7_taken_23 hC hQ  h2 hV
    · replace hV := hV.2 k9
      refine r_iload_n hC dX7_taken_16 rfl ?_
      refine r_callS (As := [.int a3]) hC dX7_taken_17 rfl cf_X7_noSort ml_7_76 st_X7_noSort rfl ⟨Nat.le_of_ble_eq_true rfl, Nat.le_of_ble_eq_true rfl, Nat.le_of_ble_eq_true rfl, Nat.le_of_ble_eq_true rfl⟩ cs0 (Nat.le_of_ble_eq_true rfl) (con_X7_noSort a3 h2 _ hV) rfl (kI (k := 0) (n := 0) (fun r3 h3 hV => ?_))
      refine r_if_eq (tgt := 25) hC dX7_taken_20 (by decide) (fun k9 => ?_) (fun k9 => ?_)
      · replace hV := hV.1 k9
        refine r_aload_n hC dX7_taken_25 rfl ?_
        refine r_iload_n hC dX7_taken_26 rfl ?_
        refine r_iload_n hC dX7_taken_27 rfl ?_
        refine r_iload_n hC dX7_taken_28 rfl ?_
        obtain ⟨k9, hV⟩ := hV
        refine r_callV (ci := 7) (As := [.int a1, .int a2, .int a3]) hC dX7_taken_29 rfl cf_X7_inForme ml_7_128 im_X7_inForme sl_X7_inForme lq_7 rfl rfl k9 rfl ⟨Nat.le_of_ble_eq_true rfl, Nat.le_of_ble_eq_true rfl, Nat.le_of_ble_eq_true rfl, Nat.le_of_ble_eq_true rfl⟩ cs0 (Nat.le_of_ble_eq_true rfl) (con_X7_inForme a0 a1 a2 a3 h3 _ hV) rfl (kI (k := 0) (n := 0) (fun r4 h4 hV => ?_))
        exact r_iret hC hQ dX7_taken_32 (Nat.le_of_ble_eq_true rfl) (Nat.le_of_ble_eq_true rfl) ⟨_, rfl, hV⟩
      · replace hV := hV.2 k9
        refine r_sub (lo1 := [none, none, none, none]) ⟨Or.inl rfl, ⟨Or.inl rfl, ⟨Or.inl rfl, ⟨Or.inl rfl, trivial⟩⟩⟩⟩ ?_
        exact ok_X7_taken_23 hC hQ  h3 hV
set_option maxRecDepth 100000 in
set_option maxHeartbeats 4000000 in
theorem con_X7_taken {E : Ev} {l0 : Launch} (a0 : Nat) (a1 : Int32) (a2 : Int32) (a3 : Int32) (h : Hp) (K : Int32 → Hp → Prop) (hV : V_X7_taken a0 a1 a2 a3 h K) : Con E l0 yX7_taken cX7_taken 4 (some .int) rm_X7_taken [rv a0, .int a1, .int a2, .int a3] h (KI K) := by
  refine Con.of (by decide +kernel) (cat_R (cat_I (cat_I (cat_I cat_nil)))) (Nat.le_of_ble_eq_true rfl) (fun X hC hQ => ?_)
  refine r_sub (lo1 := [some (rv a0), some (.int a1), some (.int a2), some (.int a3)]) (show lsub [some (rv a0), some (.int a1), some (.int a2), some (.int a3)] _ from ⟨Or.inr rfl, ⟨Or.inr rfl, ⟨Or.inr rfl, ⟨Or.inr rfl, trivial⟩⟩⟩⟩) ?_
  exact ok_X7_taken_0 hC hQ a0 a1 a2 a3 h hV
theorem dX7_type_0 : decode cX7_type 0 = .ok (.aload_n 0, 1) := by decide +kernel
theorem dX7_type_1 : decode cX7_type 1 = .ok (.getfield 93, 3) := by decide +kernel
theorem dX7_type_4 : decode cX7_type 4 = .ok (.bipush 60, 2) := by decide +kernel
theorem dX7_type_6 : decode cX7_type 6 = .ok (.if_icmp .ne 6, 3) := by decide +kernel
theorem dX7_type_9 : decode cX7_type 9 = .ok (.bipush (-3), 2) := by decide +kernel
theorem dX7_type_11 : decode cX7_type 11 = .ok (.ireturn, 1) := by decide +kernel
theorem dX7_type_12 : decode cX7_type 12 = .ok (.aload_n 0, 1) := by decide +kernel
theorem dX7_type_13 : decode cX7_type 13 = .ok (.getfield 19, 3) := by decide +kernel
theorem dX7_type_16 : decode cX7_type 16 = .ok (.aload_n 0, 1) := by decide +kernel
theorem dX7_type_17 : decode cX7_type 17 = .ok (.getfield 93, 3) := by decide +kernel
theorem dX7_type_20 : decode cX7_type 20 = .ok (.iload_n 1, 1) := by decide +kernel
theorem dX7_type_21 : decode cX7_type 21 = .ok (.iastore, 1) := by decide +kernel
theorem dX7_type_22 : decode cX7_type 22 = .ok (.aload_n 0, 1) := by decide +kernel
theorem dX7_type_23 : decode cX7_type 23 = .ok (.dup, 1) := by decide +kernel
theorem dX7_type_24 : decode cX7_type 24 = .ok (.getfield 93, 3) := by decide +kernel
theorem dX7_type_27 : decode cX7_type 27 = .ok (.iconst 1, 1) := by decide +kernel
theorem dX7_type_28 : decode cX7_type 28 = .ok (.iadd, 1) := by decide +kernel
theorem dX7_type_29 : decode cX7_type 29 = .ok (.putfield 93, 3) := by decide +kernel
theorem dX7_type_32 : decode cX7_type 32 = .ok (.aload_n 0, 1) := by decide +kernel
theorem dX7_type_33 : decode cX7_type 33 = .ok (.getfield 93, 3) := by decide +kernel
theorem dX7_type_36 : decode cX7_type 36 = .ok (.ireturn, 1) := by decide +kernel
def rm_X7_type : Room := { frames := 0, cells := 0, slots := 0, locals := 0 }
set_option maxRecDepth 100000 in
set_option maxHeartbeats 4000000 in
theorem ok_X7_type_0 {E : Ev} {X : Xt} {l0 : Launch} {K : Int32 → Hp → Prop} (hC : Cx E X l0 RX7 cX7_type 2 rm_X7_type) (hQ : CQ E X "type" (some .int) rm_X7_type (KI K)) (a0 : Nat) (a1 : Int32) (h : Hp) (hV : V_X7_type a0 a1 h K) : WW E X h 0 0 0 [some (rv a0), some (.int a1)] [] := by
  unfold V_X7_type at hV
  refine r_aload_n hC dX7_type_0 rfl ?_
  obtain ⟨k9, hV⟩ := hV
  refine r_getI hC dX7_type_1 fl_7_93 rf_7_5 lq_7 k9 ?_
  refine r_bipush (v := 60) hC dX7_type_4 (by decide) ?_
  refine r_icmp_ne (tgt := 12) hC dX7_type_6 (by decide) (fun k9 => ?_) (fun k9 => ?_)
  · replace hV := hV.1 k9
    refine r_aload_n hC dX7_type_12 rfl ?_
    obtain ⟨k9, hV⟩ := hV
    refine r_getR hC dX7_type_13 fl_7_19 rf_7_6 lq_7 k9 ?_
    refine r_aload_n hC dX7_type_16 rfl ?_
    obtain ⟨k9, hV⟩ := hV
    refine r_getI hC dX7_type_17 fl_7_93 rf_7_5 lq_7 k9 ?_
    refine r_iload_n hC dX7_type_20 rfl ?_
    obtain ⟨k9, k8, hV⟩ := hV
    refine r_iast (kd := 66) hC dX7_type_21 (by decide) rfl k9 k8 (nmH (fun h1 k9 => ?_))
    replace hV := hV h1 k9
    refine r_aload_n hC dX7_type_22 rfl ?_
    refine r_dup hC dX7_type_23 (rv_cat _) ?_
    obtain ⟨k9, hV⟩ := hV
    refine r_getI hC dX7_type_24 fl_7_93 rf_7_5 lq_7 k9 ?_
    refine r_iconst (v := 1) hC dX7_type_27 (by decide) ?_
    refine r_iadd hC dX7_type_28 ?_
    obtain ⟨k9, hV⟩ := hV
    refine r_putI hC dX7_type_29 fl_7_93 ft_7 rfl rf_7_5 ty_7_5 lq_7 k9 (nmH (fun h2 k9 => ?_))
    replace hV := hV h2 k9
    refine r_aload_n hC dX7_type_32 rfl ?_
    obtain ⟨k9, hV⟩ := hV
    refine r_getI hC dX7_type_33 fl_7_93 rf_7_5 lq_7 k9 ?_
    exact r_iret hC hQ dX7_type_36 (Nat.le_of_ble_eq_true rfl) (Nat.le_of_ble_eq_true rfl) ⟨_, rfl, hV⟩
  · replace hV := hV.2 k9
    refine r_bipush (v := (-3)) hC dX7_type_9 (by decide) ?_
    exact r_iret hC hQ dX7_type_11 (Nat.le_of_ble_eq_true rfl) (Nat.le_of_ble_eq_true rfl) ⟨_, rfl, hV⟩
set_option maxRecDepth 100000 in
set_option maxHeartbeats 4000000 in
theorem con_X7_type {E : Ev} {l0 : Launch} (a0 : Nat) (a1 : Int32) (h : Hp) (K : Int32 → Hp → Prop) (hV : V_X7_type a0 a1 h K) : Con E l0 yX7_type cX7_type 2 (some .int) rm_X7_type [rv a0, .int a1] h (KI K) := by
  refine Con.of (by decide +kernel) (cat_R (cat_I cat_nil)) (Nat.le_of_ble_eq_true rfl) (fun X hC hQ => ?_)
  refine r_sub (lo1 := [some (rv a0), some (.int a1)]) (show lsub [some (rv a0), some (.int a1)] _ from ⟨Or.inr rfl, ⟨Or.inr rfl, trivial⟩⟩) ?_
  exact ok_X7_type_0 hC hQ a0 a1 h hV
theorem dX7_undo_0 : decode cX7_undo 0 = .ok (.aload_n 0, 1) := by decide +kernel
theorem dX7_undo_1 : decode cX7_undo 1 = .ok (.getfield 52, 3) := by decide +kernel
theorem dX7_undo_4 : decode cX7_undo 4 = .ok (.ifCond .ne 6, 3) := by decide +kernel
theorem dX7_undo_7 : decode cX7_undo 7 = .ok (.bipush (-5), 2) := by decide +kernel
theorem dX7_undo_9 : decode cX7_undo 9 = .ok (.ireturn, 1) := by decide +kernel
theorem dX7_undo_10 : decode cX7_undo 10 = .ok (.aload_n 0, 1) := by decide +kernel
theorem dX7_undo_11 : decode cX7_undo 11 = .ok (.dup, 1) := by decide +kernel
theorem dX7_undo_12 : decode cX7_undo 12 = .ok (.getfield 52, 3) := by decide +kernel
theorem dX7_undo_15 : decode cX7_undo 15 = .ok (.iconst 1, 1) := by decide +kernel
theorem dX7_undo_16 : decode cX7_undo 16 = .ok (.isub, 1) := by decide +kernel
theorem dX7_undo_17 : decode cX7_undo 17 = .ok (.putfield 52, 3) := by decide +kernel
theorem dX7_undo_20 : decode cX7_undo 20 = .ok (.iconst 0, 1) := by decide +kernel
theorem dX7_undo_21 : decode cX7_undo 21 = .ok (.istore_n 1, 1) := by decide +kernel
theorem dX7_undo_22 : decode cX7_undo 22 = .ok (.iload_n 1, 1) := by decide +kernel
theorem dX7_undo_23 : decode cX7_undo 23 = .ok (.sipush 3475, 3) := by decide +kernel
theorem dX7_undo_26 : decode cX7_undo 26 = .ok (.if_icmp .ge 30, 3) := by decide +kernel
theorem dX7_undo_29 : decode cX7_undo 29 = .ok (.aload_n 0, 1) := by decide +kernel
theorem dX7_undo_30 : decode cX7_undo 30 = .ok (.getfield 7, 3) := by decide +kernel
theorem dX7_undo_33 : decode cX7_undo 33 = .ok (.iload_n 1, 1) := by decide +kernel
theorem dX7_undo_34 : decode cX7_undo 34 = .ok (.aload_n 0, 1) := by decide +kernel
theorem dX7_undo_35 : decode cX7_undo 35 = .ok (.getfield 13, 3) := by decide +kernel
theorem dX7_undo_38 : decode cX7_undo 38 = .ok (.sipush 3475, 3) := by decide +kernel
theorem dX7_undo_41 : decode cX7_undo 41 = .ok (.aload_n 0, 1) := by decide +kernel
theorem dX7_undo_42 : decode cX7_undo 42 = .ok (.getfield 52, 3) := by decide +kernel
theorem dX7_undo_45 : decode cX7_undo 45 = .ok (.imul, 1) := by decide +kernel
theorem dX7_undo_46 : decode cX7_undo 46 = .ok (.iload_n 1, 1) := by decide +kernel
theorem dX7_undo_47 : decode cX7_undo 47 = .ok (.iadd, 1) := by decide +kernel
theorem dX7_undo_48 : decode cX7_undo 48 = .ok (.iaload, 1) := by decide +kernel
theorem dX7_undo_49 : decode cX7_undo 49 = .ok (.iastore, 1) := by decide +kernel
theorem dX7_undo_50 : decode cX7_undo 50 = .ok (.iinc 1 1, 3) := by decide +kernel
theorem dX7_undo_53 : decode cX7_undo 53 = .ok (.goto (-31), 3) := by decide +kernel
theorem dX7_undo_56 : decode cX7_undo 56 = .ok (.aload_n 0, 1) := by decide +kernel
theorem dX7_undo_57 : decode cX7_undo 57 = .ok (.getfield 52, 3) := by decide +kernel
theorem dX7_undo_60 : decode cX7_undo 60 = .ok (.ireturn, 1) := by decide +kernel
def rm_X7_undo : Room := { frames := 0, cells := 0, slots := 0, locals := 0 }
set_option maxRecDepth 100000 in
set_option maxHeartbeats 4000000 in
theorem ok_X7_undo_22 {E : Ev} {X : Xt} {l0 : Launch} {K : Int32 → Hp → Prop} (hC : Cx E X l0 RX7 cX7_undo 2 rm_X7_undo) (hQ : CQ E X "undo" (some .int) rm_X7_undo (KI K)) : ∀ (n : Nat) (a0 : Nat) (a1 : Int32) (h : Hp), V_X7_undo_22 K n a0 a1 h → WW E X h 0 0 22 [some (rv a0), some (.int a1)] [] := by
  intro n
  induction n with
  | zero => intro a0 a1 h hV; exact hV.elim
  | succ n ih =>
    intro a0 a1 h hV
    unfold V_X7_undo_22 at hV
    refine r_iload_n hC dX7_undo_22 rfl ?_
    refine r_sipush (v := 3475) hC dX7_undo_23 (by decide) ?_
    refine r_icmp_ge (tgt := 56) hC dX7_undo_26 (by decide) (fun k9 => ?_) (fun k9 => ?_)
    · replace hV := hV.1 k9
      refine r_aload_n hC dX7_undo_56 rfl ?_
      obtain ⟨k9, hV⟩ := hV
      refine r_getI hC dX7_undo_57 fl_7_52 rf_7_2 lq_7 k9 ?_
      exact r_iret hC hQ dX7_undo_60 (Nat.le_of_ble_eq_true rfl) (Nat.le_of_ble_eq_true rfl) ⟨_, rfl, hV⟩
    · replace hV := hV.2 k9
      refine r_aload_n hC dX7_undo_29 rfl ?_
      obtain ⟨k9, hV⟩ := hV
      refine r_getR hC dX7_undo_30 fl_7_7 rf_7_0 lq_7 k9 ?_
      refine r_iload_n hC dX7_undo_33 rfl ?_
      refine r_aload_n hC dX7_undo_34 rfl ?_
      obtain ⟨k9, hV⟩ := hV
      refine r_getR hC dX7_undo_35 fl_7_13 rf_7_1 lq_7 k9 ?_
      refine r_sipush (v := 3475) hC dX7_undo_38 (by decide) ?_
      refine r_aload_n hC dX7_undo_41 rfl ?_
      obtain ⟨k9, hV⟩ := hV
      refine r_getI hC dX7_undo_42 fl_7_52 rf_7_2 lq_7 k9 ?_
      refine r_imul hC dX7_undo_45 ?_
      refine r_iload_n hC dX7_undo_46 rfl ?_
      refine r_iadd hC dX7_undo_47 ?_
      obtain ⟨k9, k8, hV⟩ := hV
      refine r_iald (kd := 61) hC dX7_undo_48 (by decide) rfl k9 k8 ?_
      obtain ⟨k9, k8, hV⟩ := hV
      refine r_iast (kd := 60) hC dX7_undo_49 (by decide) rfl k9 k8 (nmH (fun h1 k9 => ?_))
      replace hV := hV h1 k9
      refine r_iinc (v := 1) (lo1 := [some (rv a0), some (.int (a1 + 1))]) hC dX7_undo_50 rfl (by decide) rfl ?_
      refine r_goto (tgt := 22) hC dX7_undo_53 (by decide) ?_
      exact ih a0 (a1 + 1) h1 hV
set_option maxRecDepth 100000 in
set_option maxHeartbeats 4000000 in
theorem ok_X7_undo_0 {E : Ev} {X : Xt} {l0 : Launch} {K : Int32 → Hp → Prop} (hC : Cx E X l0 RX7 cX7_undo 2 rm_X7_undo) (hQ : CQ E X "undo" (some .int) rm_X7_undo (KI K)) (a0 : Nat) (h : Hp) (hV : V_X7_undo a0 h K) : WW E X h 0 0 0 [some (rv a0), none] [] := by
  unfold V_X7_undo at hV
  refine r_aload_n hC dX7_undo_0 rfl ?_
  obtain ⟨k9, hV⟩ := hV
  refine r_getI hC dX7_undo_1 fl_7_52 rf_7_2 lq_7 k9 ?_
  refine r_if_ne (tgt := 10) hC dX7_undo_4 (by decide) (fun k9 => ?_) (fun k9 => ?_)
  · replace hV := hV.1 k9
    refine r_aload_n hC dX7_undo_10 rfl ?_
    refine r_dup hC dX7_undo_11 (rv_cat _) ?_
    obtain ⟨k9, hV⟩ := hV
    refine r_getI hC dX7_undo_12 fl_7_52 rf_7_2 lq_7 k9 ?_
    refine r_iconst (v := 1) hC dX7_undo_15 (by decide) ?_
    refine r_isub hC dX7_undo_16 ?_
    obtain ⟨k9, hV⟩ := hV
    refine r_putI hC dX7_undo_17 fl_7_52 ft_7 rfl rf_7_2 ty_7_2 lq_7 k9 (nmH (fun h1 k9 => ?_))
    replace hV := hV h1 k9
    refine r_iconst (v := 0) hC dX7_undo_20 (by decide) ?_
    refine r_istore_n (lo1 := [some (rv a0), some (.int 0)]) hC dX7_undo_21 (Nat.le_of_ble_eq_true rfl) rfl ?_
    obtain ⟨n9, hV⟩ := hV
    exact ok_X7_undo_22 hC hQ n9 a0 0 h1 hV
  · replace hV := hV.2 k9
    refine r_bipush (v := (-5)) hC dX7_undo_7 (by decide) ?_
    exact r_iret hC hQ dX7_undo_9 (Nat.le_of_ble_eq_true rfl) (Nat.le_of_ble_eq_true rfl) ⟨_, rfl, hV⟩
set_option maxRecDepth 100000 in
set_option maxHeartbeats 4000000 in
theorem con_X7_undo {E : Ev} {l0 : Launch} (a0 : Nat) (h : Hp) (K : Int32 → Hp → Prop) (hV : V_X7_undo a0 h K) : Con E l0 yX7_undo cX7_undo 2 (some .int) rm_X7_undo [rv a0] h (KI K) := by
  refine Con.of (by decide +kernel) (cat_R cat_nil) (Nat.le_of_ble_eq_true rfl) (fun X hC hQ => ?_)
  refine r_sub (lo1 := [some (rv a0), none]) (show lsub [some (rv a0), none] _ from ⟨Or.inr rfl, ⟨Or.inr rfl, trivial⟩⟩) ?_
  exact ok_X7_undo_0 hC hQ a0 h hV
theorem dX7_urgent_0 : decode cX7_urgent 0 = .ok (.bipush (-5), 2) := by decide +kernel
theorem dX7_urgent_2 : decode cX7_urgent 2 = .ok (.istore_n 1, 1) := by decide +kernel
theorem dX7_urgent_3 : decode cX7_urgent 3 = .ok (.iconst 0, 1) := by decide +kernel
theorem dX7_urgent_4 : decode cX7_urgent 4 = .ok (.istore_n 2, 1) := by decide +kernel
theorem dX7_urgent_5 : decode cX7_urgent 5 = .ok (.iload_n 2, 1) := by decide +kernel
theorem dX7_urgent_6 : decode cX7_urgent 6 = .ok (.aload_n 0, 1) := by decide +kernel
theorem dX7_urgent_7 : decode cX7_urgent 7 = .ok (.getfield 7, 3) := by decide +kernel
theorem dX7_urgent_10 : decode cX7_urgent 10 = .ok (.iconst 1, 1) := by decide +kernel
theorem dX7_urgent_11 : decode cX7_urgent 11 = .ok (.iaload, 1) := by decide +kernel
theorem dX7_urgent_12 : decode cX7_urgent 12 = .ok (.if_icmp .ge 44, 3) := by decide +kernel
theorem dX7_urgent_15 : decode cX7_urgent 15 = .ok (.aload_n 0, 1) := by decide +kernel
theorem dX7_urgent_16 : decode cX7_urgent 16 = .ok (.iload_n 2, 1) := by decide +kernel
theorem dX7_urgent_17 : decode cX7_urgent 17 = .ok (.invokevirtual 173, 3) := by decide +kernel
theorem dX7_urgent_20 : decode cX7_urgent 20 = .ok (.ifCond .eq 28, 3) := by decide +kernel
theorem dX7_urgent_23 : decode cX7_urgent 23 = .ok (.iload_n 1, 1) := by decide +kernel
theorem dX7_urgent_24 : decode cX7_urgent 24 = .ok (.bipush (-5), 2) := by decide +kernel
theorem dX7_urgent_26 : decode cX7_urgent 26 = .ok (.if_icmp .eq 18, 3) := by decide +kernel
theorem dX7_urgent_29 : decode cX7_urgent 29 = .ok (.aload_n 0, 1) := by decide +kernel
theorem dX7_urgent_30 : decode cX7_urgent 30 = .ok (.iload_n 2, 1) := by decide +kernel
theorem dX7_urgent_31 : decode cX7_urgent 31 = .ok (.iconst 2, 1) := by decide +kernel
theorem dX7_urgent_32 : decode cX7_urgent 32 = .ok (.invokevirtual 60, 3) := by decide +kernel
theorem dX7_urgent_35 : decode cX7_urgent 35 = .ok (.aload_n 0, 1) := by decide +kernel
theorem dX7_urgent_36 : decode cX7_urgent 36 = .ok (.iload_n 1, 1) := by decide +kernel
theorem dX7_urgent_37 : decode cX7_urgent 37 = .ok (.iconst 2, 1) := by decide +kernel
theorem dX7_urgent_38 : decode cX7_urgent 38 = .ok (.invokevirtual 60, 3) := by decide +kernel
theorem dX7_urgent_41 : decode cX7_urgent 41 = .ok (.if_icmp .ge 7, 3) := by decide +kernel
theorem dX7_urgent_44 : decode cX7_urgent 44 = .ok (.iload_n 2, 1) := by decide +kernel
theorem dX7_urgent_45 : decode cX7_urgent 45 = .ok (.goto 4, 3) := by decide +kernel
theorem dX7_urgent_48 : decode cX7_urgent 48 = .ok (.iload_n 1, 1) := by decide +kernel
theorem dX7_urgent_49 : decode cX7_urgent 49 = .ok (.istore_n 1, 1) := by decide +kernel
theorem dX7_urgent_50 : decode cX7_urgent 50 = .ok (.iinc 2 1, 3) := by decide +kernel
theorem dX7_urgent_53 : decode cX7_urgent 53 = .ok (.goto (-48), 3) := by decide +kernel
theorem dX7_urgent_56 : decode cX7_urgent 56 = .ok (.iload_n 1, 1) := by decide +kernel
theorem dX7_urgent_57 : decode cX7_urgent 57 = .ok (.ireturn, 1) := by decide +kernel
def rm_X7_urgent : Room := { frames := 2, cells := 0, slots := 0, locals := 43 }
set_option maxRecDepth 100000 in
set_option maxHeartbeats 4000000 in
theorem ok_X7_urgent_49 {E : Ev} {X : Xt} {l0 : Launch} {K : Int32 → Hp → Prop} {C5 : Nat → Int32 → Int32 → Hp → Prop} (hC : Cx E X l0 RX7 cX7_urgent 3 rm_X7_urgent) (hQ : CQ E X "urgent" (some .int) rm_X7_urgent (KI K)) (hC5 : ∀ (a0 : Nat) (a1 : Int32) (a2 : Int32) (h : Hp), C5 a0 a1 a2 h → WW E X h 0 0 5 [some (rv a0), some (.int a1), some (.int a2)] []) (a0 : Nat) (a2 : Int32) (s0 : Int32) (h : Hp) (hV : V_X7_urgent_49 K C5 a0 a2 s0 h) : WW E X h 0 0 49 [some (rv a0), none, some (.int a2)] [.int s0] := by
  unfold V_X7_urgent_49 at hV
  refine r_istore_n (lo1 := [some (rv a0), some (.int s0), some (.int a2)]) hC dX7_urgent_49 (Nat.le_of_ble_eq_true rfl) rfl ?_
  refine r_iinc (v := 1) (lo1 := [some (rv a0), some (.int s0), some (.int (a2 + 1))]) hC dX7_urgent_50 rfl (by decide) rfl ?_
  refine r_goto (tgt := 5) hC dX7_urgent_53 (by decide) ?_
  exact hC5 a0 s0 (a2 + 1) h hV
set_option maxRecDepth 100000 in
set_option maxHeartbeats 4000000 in
theorem ok_X7_urgent_44 {E : Ev} {X : Xt} {l0 : Launch} {K : Int32 → Hp → Prop} {C5 : Nat → Int32 → Int32 → Hp → Prop} (hC : Cx E X l0 RX7 cX7_urgent 3 rm_X7_urgent) (hQ : CQ E X "urgent" (some .int) rm_X7_urgent (KI K)) (hC5 : ∀ (a0 : Nat) (a1 : Int32) (a2 : Int32) (h : Hp), C5 a0 a1 a2 h → WW E X h 0 0 5 [some (rv a0), some (.int a1), some (.int a2)] []) (a0 : Nat) (a2 : Int32) (h : Hp) (hV : V_X7_urgent_44 K C5 a0 a2 h) : WW E X h 0 0 44 [some (rv a0), none, some (.int a2)] [] := by
  unfold V_X7_urgent_44 at hV
  refine r_iload_n hC dX7_urgent_44 rfl ?_
  refine r_goto (tgt := 49) hC dX7_urgent_45 (by decide) ?_
  exact ok_X7_urgent_49 hC hQ hC5 a0 a2 a2 h hV
set_option maxRecDepth 100000 in
set_option maxHeartbeats 4000000 in
theorem ok_X7_urgent_48 {E : Ev} {X : Xt} {l0 : Launch} {K : Int32 → Hp → Prop} {C5 : Nat → Int32 → Int32 → Hp → Prop} (hC : Cx E X l0 RX7 cX7_urgent 3 rm_X7_urgent) (hQ : CQ E X "urgent" (some .int) rm_X7_urgent (KI K)) (hC5 : ∀ (a0 : Nat) (a1 : Int32) (a2 : Int32) (h : Hp), C5 a0 a1 a2 h → WW E X h 0 0 5 [some (rv a0), some (.int a1), some (.int a2)] []) (a0 : Nat) (a1 : Int32) (a2 : Int32) (h : Hp) (hV : V_X7_urgent_48 K C5 a0 a1 a2 h) : WW E X h 0 0 48 [some (rv a0), some (.int a1), some (.int a2)] [] := by
  unfold V_X7_urgent_48 at hV
  refine r_iload_n hC dX7_urgent_48 rfl ?_
  refine r_sub (lo1 := [some (rv a0), none, some (.int a2)]) ⟨Or.inr rfl, ⟨Or.inl rfl, ⟨Or.inr rfl, trivial⟩⟩⟩ ?_
  exact ok_X7_urgent_49 hC hQ hC5 a0 a2 a1 h hV
set_option maxRecDepth 100000 in
set_option maxHeartbeats 4000000 in
theorem ok_X7_urgent_5 {E : Ev} {X : Xt} {l0 : Launch} {K : Int32 → Hp → Prop} (hC : Cx E X l0 RX7 cX7_urgent 3 rm_X7_urgent) (hQ : CQ E X "urgent" (some .int) rm_X7_urgent (KI K)) : ∀ (n : Nat) (a0 : Nat) (a1 : Int32) (a2 : Int32) (h : Hp), V_X7_urgent_5 K n a0 a1 a2 h → WW E X h 0 0 5 [some (rv a0), some (.int a1), some (.int a2)] [] := by
  intro n
  induction n with
  | zero => intro a0 a1 a2 h hV; exact hV.elim
  | succ n ih =>
    intro a0 a1 a2 h hV
    unfold V_X7_urgent_5 at hV
    refine r_iload_n hC dX7_urgent_5 rfl ?_
    refine r_aload_n hC dX7_urgent_6 rfl ?_
    obtain ⟨k9, hV⟩ := hV
    refine r_getR hC dX7_urgent_7 fl_7_7 rf_7_0 lq_7 k9 ?_
    refine r_iconst (v := 1) hC dX7_urgent_10 (by decide) ?_
    obtain ⟨k9, k8, hV⟩ := hV
    refine r_iald (kd := 60) hC dX7_urgent_11 (by decide) rfl k9 k8 ?_
    refine r_icmp_ge (tgt := 56) hC dX7_urgent_12 (by decide) (fun k9 => ?_) (fun k9 => ?_)
    · replace hV := hV.1 k9
      refine r_iload_n hC dX7_urgent_56 rfl ?_
      exact r_iret hC hQ dX7_urgent_57 (Nat.le_of_ble_eq_true rfl) (Nat.le_of_ble_eq_true rfl) ⟨_, rfl, hV⟩
    · replace hV := hV.2 k9
      refine r_aload_n hC dX7_urgent_15 rfl ?_
      refine r_iload_n hC dX7_urgent_16 rfl ?_
      obtain ⟨k9, hV⟩ := hV
      refine r_callV (ci := 7) (As := [.int a2]) hC dX7_urgent_17 rfl cf_X7_isToDo ml_7_173 im_X7_isToDo sl_X7_isToDo lq_7 rfl rfl k9 rfl ⟨Nat.le_of_ble_eq_true rfl, Nat.le_of_ble_eq_true rfl, Nat.le_of_ble_eq_true rfl, Nat.le_of_ble_eq_true rfl⟩ cs0 (Nat.le_of_ble_eq_true rfl) (con_X7_isToDo a0 a2 h _ hV) rfl (kI (k := 0) (n := 0) (fun r1 h1 hV => ?_))
      refine r_if_eq (tgt := 48) hC dX7_urgent_20 (by decide) (fun k9 => ?_) (fun k9 => ?_)
      · replace hV := hV.1 k9
        exact ok_X7_urgent_48 hC hQ ih a0 a1 a2 h1 hV
      · replace hV := hV.2 k9
        refine r_iload_n hC dX7_urgent_23 rfl ?_
        refine r_bipush (v := (-5)) hC dX7_urgent_24 (by decide) ?_
        refine r_icmp_eq (tgt := 44) hC dX7_urgent_26 (by decide) (fun k9 => ?_) (fun k9 => ?_)
        · replace hV := hV.1 k9
          refine r_sub (lo1 := [some (rv a0), none, some (.int a2)]) ⟨Or.inr rfl, ⟨Or.inl rfl, ⟨Or.inr rfl, trivial⟩⟩⟩ ?_
          exact ok_X7_urgent_44 hC hQ ih a0 a2 h1 hV
        · replace hV := hV.2 k9
          refine r_aload_n hC dX7_urgent_29 rfl ?_
          refine r_iload_n hC dX7_urgent_30 rfl ?_
          refine r_iconst (v := 2) hC dX7_urgent_31 (by decide) ?_
          obtain ⟨k9, hV⟩ := hV
          refine r_callV (ci := 7) (As := [.int a2, .int 2]) hC dX7_urgent_32 rfl cf_X7_ofJob ml_7_60 im_X7_ofJob sl_X7_ofJob lq_7 rfl rfl k9 rfl ⟨Nat.le_of_ble_eq_true rfl, Nat.le_of_ble_eq_true rfl, Nat.le_of_ble_eq_true rfl, Nat.le_of_ble_eq_true rfl⟩ cs0 (Nat.le_of_ble_eq_true rfl) (con_X7_ofJob a0 a2 2 h1 _ hV) rfl (kI (k := 0) (n := 0) (fun r2 h2 hV => ?_))
          refine r_aload_n hC dX7_urgent_35 rfl ?_
          refine r_iload_n hC dX7_urgent_36 rfl ?_
          refine r_iconst (v := 2) hC dX7_urgent_37 (by decide) ?_
          obtain ⟨k9, hV⟩ := hV
          refine r_callV (ci := 7) (As := [.int a1, .int 2]) hC dX7_urgent_38 rfl cf_X7_ofJob ml_7_60 im_X7_ofJob sl_X7_ofJob lq_7 rfl rfl k9 rfl ⟨Nat.le_of_ble_eq_true rfl, Nat.le_of_ble_eq_true rfl, Nat.le_of_ble_eq_true rfl, Nat.le_of_ble_eq_true rfl⟩ (csI cs0) (Nat.le_of_ble_eq_true rfl) (con_X7_ofJob a0 a1 2 h2 _ hV) rfl (kI (k := 0) (n := 0) (fun r3 h3 hV => ?_))
          refine r_icmp_ge (tgt := 48) hC dX7_urgent_41 (by decide) (fun k9 => ?_) (fun k9 => ?_)
          · replace hV := hV.1 k9
            exact ok_X7_urgent_48 hC hQ ih a0 a1 a2 h3 hV
          · replace hV := hV.2 k9
            refine r_sub (lo1 := [some (rv a0), none, some (.int a2)]) ⟨Or.inr rfl, ⟨Or.inl rfl, ⟨Or.inr rfl, trivial⟩⟩⟩ ?_
            exact ok_X7_urgent_44 hC hQ ih a0 a2 h3 hV
set_option maxRecDepth 100000 in
set_option maxHeartbeats 4000000 in
theorem ok_X7_urgent_0 {E : Ev} {X : Xt} {l0 : Launch} {K : Int32 → Hp → Prop} (hC : Cx E X l0 RX7 cX7_urgent 3 rm_X7_urgent) (hQ : CQ E X "urgent" (some .int) rm_X7_urgent (KI K)) (a0 : Nat) (h : Hp) (hV : V_X7_urgent a0 h K) : WW E X h 0 0 0 [some (rv a0), none, none] [] := by
  unfold V_X7_urgent at hV
  refine r_bipush (v := (-5)) hC dX7_urgent_0 (by decide) ?_
  refine r_istore_n (lo1 := [some (rv a0), some (.int (-5)), none]) hC dX7_urgent_2 (Nat.le_of_ble_eq_true rfl) rfl ?_
  refine r_iconst (v := 0) hC dX7_urgent_3 (by decide) ?_
  refine r_istore_n (lo1 := [some (rv a0), some (.int (-5)), some (.int 0)]) hC dX7_urgent_4 (Nat.le_of_ble_eq_true rfl) rfl ?_
  obtain ⟨n9, hV⟩ := hV
  exact ok_X7_urgent_5 hC hQ n9 a0 (-5) 0 h hV
set_option maxRecDepth 100000 in
set_option maxHeartbeats 4000000 in
theorem con_X7_urgent {E : Ev} {l0 : Launch} (a0 : Nat) (h : Hp) (K : Int32 → Hp → Prop) (hV : V_X7_urgent a0 h K) : Con E l0 yX7_urgent cX7_urgent 3 (some .int) rm_X7_urgent [rv a0] h (KI K) := by
  refine Con.of (by decide +kernel) (cat_R cat_nil) (Nat.le_of_ble_eq_true rfl) (fun X hC hQ => ?_)
  refine r_sub (lo1 := [some (rv a0), none, none]) (show lsub [some (rv a0), none, none] _ from ⟨Or.inr rfl, ⟨Or.inr rfl, ⟨Or.inr rfl, trivial⟩⟩⟩) ?_
  exact ok_X7_urgent_0 hC hQ a0 h hV
