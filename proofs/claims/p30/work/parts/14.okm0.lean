theorem dL_accounts_0 : decode cL_accounts 0 = .ok (.iconst 0, 1) := by decide +kernel
theorem dL_accounts_1 : decode cL_accounts 1 = .ok (.istore_n 1, 1) := by decide +kernel
theorem dL_accounts_2 : decode cL_accounts 2 = .ok (.iconst 0, 1) := by decide +kernel
theorem dL_accounts_3 : decode cL_accounts 3 = .ok (.istore_n 2, 1) := by decide +kernel
theorem dL_accounts_4 : decode cL_accounts 4 = .ok (.bipush (-5), 2) := by decide +kernel
theorem dL_accounts_6 : decode cL_accounts 6 = .ok (.istore_n 3, 1) := by decide +kernel
theorem dL_accounts_7 : decode cL_accounts 7 = .ok (.iconst 0, 1) := by decide +kernel
theorem dL_accounts_8 : decode cL_accounts 8 = .ok (.istore 4, 2) := by decide +kernel
theorem dL_accounts_10 : decode cL_accounts 10 = .ok (.iload 4, 2) := by decide +kernel
theorem dL_accounts_12 : decode cL_accounts 12 = .ok (.aload_n 0, 1) := by decide +kernel
theorem dL_accounts_13 : decode cL_accounts 13 = .ok (.iconst 1, 1) := by decide +kernel
theorem dL_accounts_14 : decode cL_accounts 14 = .ok (.invokevirtual 13, 3) := by decide +kernel
theorem dL_accounts_17 : decode cL_accounts 17 = .ok (.if_icmp .ge 114, 3) := by decide +kernel
theorem dL_accounts_20 : decode cL_accounts 20 = .ok (.aload_n 0, 1) := by decide +kernel
theorem dL_accounts_21 : decode cL_accounts 21 = .ok (.iload 4, 2) := by decide +kernel
theorem dL_accounts_23 : decode cL_accounts 23 = .ok (.iconst 3, 1) := by decide +kernel
theorem dL_accounts_24 : decode cL_accounts 24 = .ok (.invokevirtual 23, 3) := by decide +kernel
theorem dL_accounts_27 : decode cL_accounts 27 = .ok (.iconst 2, 1) := by decide +kernel
theorem dL_accounts_28 : decode cL_accounts 28 = .ok (.if_icmp .ge 7, 3) := by decide +kernel
theorem dL_accounts_31 : decode cL_accounts 31 = .ok (.iconst 1, 1) := by decide +kernel
theorem dL_accounts_32 : decode cL_accounts 32 = .ok (.goto 4, 3) := by decide +kernel
theorem dL_accounts_35 : decode cL_accounts 35 = .ok (.iconst 0, 1) := by decide +kernel
theorem dL_accounts_36 : decode cL_accounts 36 = .ok (.istore 5, 2) := by decide +kernel
theorem dL_accounts_38 : decode cL_accounts 38 = .ok (.iload_n 1, 1) := by decide +kernel
theorem dL_accounts_39 : decode cL_accounts 39 = .ok (.aload_n 0, 1) := by decide +kernel
theorem dL_accounts_40 : decode cL_accounts 40 = .ok (.iload 4, 2) := by decide +kernel
theorem dL_accounts_42 : decode cL_accounts 42 = .ok (.bipush 10, 2) := by decide +kernel
theorem dL_accounts_44 : decode cL_accounts 44 = .ok (.invokevirtual 23, 3) := by decide +kernel
theorem dL_accounts_47 : decode cL_accounts 47 = .ok (.ifCond .le 14, 3) := by decide +kernel
theorem dL_accounts_50 : decode cL_accounts 50 = .ok (.aload_n 0, 1) := by decide +kernel
theorem dL_accounts_51 : decode cL_accounts 51 = .ok (.iload 4, 2) := by decide +kernel
theorem dL_accounts_53 : decode cL_accounts 53 = .ok (.bipush 10, 2) := by decide +kernel
theorem dL_accounts_55 : decode cL_accounts 55 = .ok (.invokevirtual 23, 3) := by decide +kernel
theorem dL_accounts_58 : decode cL_accounts 58 = .ok (.goto 4, 3) := by decide +kernel
theorem dL_accounts_61 : decode cL_accounts 61 = .ok (.iconst 0, 1) := by decide +kernel
theorem dL_accounts_62 : decode cL_accounts 62 = .ok (.iadd, 1) := by decide +kernel
theorem dL_accounts_63 : decode cL_accounts 63 = .ok (.istore_n 1, 1) := by decide +kernel
theorem dL_accounts_64 : decode cL_accounts 64 = .ok (.iload_n 2, 1) := by decide +kernel
theorem dL_accounts_65 : decode cL_accounts 65 = .ok (.iload 5, 2) := by decide +kernel
theorem dL_accounts_67 : decode cL_accounts 67 = .ok (.ifCond .eq 23, 3) := by decide +kernel
theorem dL_accounts_70 : decode cL_accounts 70 = .ok (.aload_n 0, 1) := by decide +kernel
theorem dL_accounts_71 : decode cL_accounts 71 = .ok (.iload 4, 2) := by decide +kernel
theorem dL_accounts_73 : decode cL_accounts 73 = .ok (.iconst 2, 1) := by decide +kernel
theorem dL_accounts_74 : decode cL_accounts 74 = .ok (.invokevirtual 23, 3) := by decide +kernel
theorem dL_accounts_77 : decode cL_accounts 77 = .ok (.aload_n 0, 1) := by decide +kernel
theorem dL_accounts_78 : decode cL_accounts 78 = .ok (.bipush 11, 2) := by decide +kernel
theorem dL_accounts_80 : decode cL_accounts 80 = .ok (.invokevirtual 13, 3) := by decide +kernel
theorem dL_accounts_83 : decode cL_accounts 83 = .ok (.if_icmp .ge 7, 3) := by decide +kernel
theorem dL_accounts_86 : decode cL_accounts 86 = .ok (.iconst 1, 1) := by decide +kernel
theorem dL_accounts_87 : decode cL_accounts 87 = .ok (.goto 4, 3) := by decide +kernel
theorem dL_accounts_90 : decode cL_accounts 90 = .ok (.iconst 0, 1) := by decide +kernel
theorem dL_accounts_91 : decode cL_accounts 91 = .ok (.iadd, 1) := by decide +kernel
theorem dL_accounts_92 : decode cL_accounts 92 = .ok (.istore_n 2, 1) := by decide +kernel
theorem dL_accounts_93 : decode cL_accounts 93 = .ok (.iload 5, 2) := by decide +kernel
theorem dL_accounts_95 : decode cL_accounts 95 = .ok (.ifCond .eq 28, 3) := by decide +kernel
theorem dL_accounts_98 : decode cL_accounts 98 = .ok (.iload_n 3, 1) := by decide +kernel
theorem dL_accounts_99 : decode cL_accounts 99 = .ok (.ifCond .lt 19, 3) := by decide +kernel
theorem dL_accounts_102 : decode cL_accounts 102 = .ok (.aload_n 0, 1) := by decide +kernel
theorem dL_accounts_103 : decode cL_accounts 103 = .ok (.iload 4, 2) := by decide +kernel
theorem dL_accounts_105 : decode cL_accounts 105 = .ok (.iconst 2, 1) := by decide +kernel
theorem dL_accounts_106 : decode cL_accounts 106 = .ok (.invokevirtual 23, 3) := by decide +kernel
theorem dL_accounts_109 : decode cL_accounts 109 = .ok (.aload_n 0, 1) := by decide +kernel
theorem dL_accounts_110 : decode cL_accounts 110 = .ok (.iload_n 3, 1) := by decide +kernel
theorem dL_accounts_111 : decode cL_accounts 111 = .ok (.iconst 2, 1) := by decide +kernel
theorem dL_accounts_112 : decode cL_accounts 112 = .ok (.invokevirtual 23, 3) := by decide +kernel
theorem dL_accounts_115 : decode cL_accounts 115 = .ok (.if_icmp .ge 8, 3) := by decide +kernel
theorem dL_accounts_118 : decode cL_accounts 118 = .ok (.iload 4, 2) := by decide +kernel
theorem dL_accounts_120 : decode cL_accounts 120 = .ok (.goto 4, 3) := by decide +kernel
theorem dL_accounts_123 : decode cL_accounts 123 = .ok (.iload_n 3, 1) := by decide +kernel
theorem dL_accounts_124 : decode cL_accounts 124 = .ok (.istore_n 3, 1) := by decide +kernel
theorem dL_accounts_125 : decode cL_accounts 125 = .ok (.iinc 4 1, 3) := by decide +kernel
theorem dL_accounts_128 : decode cL_accounts 128 = .ok (.goto (-118), 3) := by decide +kernel
theorem dL_accounts_131 : decode cL_accounts 131 = .ok (.aload_n 0, 1) := by decide +kernel
theorem dL_accounts_132 : decode cL_accounts 132 = .ok (.bipush 12, 2) := by decide +kernel
theorem dL_accounts_134 : decode cL_accounts 134 = .ok (.invokevirtual 13, 3) := by decide +kernel
theorem dL_accounts_137 : decode cL_accounts 137 = .ok (.iload_n 1, 1) := by decide +kernel
theorem dL_accounts_138 : decode cL_accounts 138 = .ok (.if_icmp .ne 50, 3) := by decide +kernel
theorem dL_accounts_141 : decode cL_accounts 141 = .ok (.aload_n 0, 1) := by decide +kernel
theorem dL_accounts_142 : decode cL_accounts 142 = .ok (.bipush 13, 2) := by decide +kernel
theorem dL_accounts_144 : decode cL_accounts 144 = .ok (.invokevirtual 13, 3) := by decide +kernel
theorem dL_accounts_147 : decode cL_accounts 147 = .ok (.iload_n 2, 1) := by decide +kernel
theorem dL_accounts_148 : decode cL_accounts 148 = .ok (.if_icmp .ne 40, 3) := by decide +kernel
theorem dL_accounts_151 : decode cL_accounts 151 = .ok (.aload_n 0, 1) := by decide +kernel
theorem dL_accounts_152 : decode cL_accounts 152 = .ok (.invokevirtual 44, 3) := by decide +kernel
theorem dL_accounts_155 : decode cL_accounts 155 = .ok (.iload_n 3, 1) := by decide +kernel
theorem dL_accounts_156 : decode cL_accounts 156 = .ok (.if_icmp .ne 32, 3) := by decide +kernel
theorem dL_accounts_159 : decode cL_accounts 159 = .ok (.aload_n 0, 1) := by decide +kernel
theorem dL_accounts_160 : decode cL_accounts 160 = .ok (.aload_n 0, 1) := by decide +kernel
theorem dL_accounts_161 : decode cL_accounts 161 = .ok (.iconst 1, 1) := by decide +kernel
theorem dL_accounts_162 : decode cL_accounts 162 = .ok (.invokevirtual 13, 3) := by decide +kernel
theorem dL_accounts_165 : decode cL_accounts 165 = .ok (.iconst 0, 1) := by decide +kernel
theorem dL_accounts_166 : decode cL_accounts 166 = .ok (.invokevirtual 23, 3) := by decide +kernel
theorem dL_accounts_169 : decode cL_accounts 169 = .ok (.iconst (-1), 1) := by decide +kernel
theorem dL_accounts_170 : decode cL_accounts 170 = .ok (.if_icmp .ne 18, 3) := by decide +kernel
theorem dL_accounts_173 : decode cL_accounts 173 = .ok (.aload_n 0, 1) := by decide +kernel
theorem dL_accounts_174 : decode cL_accounts 174 = .ok (.bipush 16, 2) := by decide +kernel
theorem dL_accounts_176 : decode cL_accounts 176 = .ok (.invokevirtual 13, 3) := by decide +kernel
theorem dL_accounts_179 : decode cL_accounts 179 = .ok (.bipush (-2), 2) := by decide +kernel
theorem dL_accounts_181 : decode cL_accounts 181 = .ok (.if_icmp .ne 7, 3) := by decide +kernel
theorem dL_accounts_184 : decode cL_accounts 184 = .ok (.iconst 1, 1) := by decide +kernel
theorem dL_accounts_185 : decode cL_accounts 185 = .ok (.goto 4, 3) := by decide +kernel
theorem dL_accounts_188 : decode cL_accounts 188 = .ok (.iconst 0, 1) := by decide +kernel
theorem dL_accounts_189 : decode cL_accounts 189 = .ok (.ireturn, 1) := by decide +kernel
def rm_L_accounts : Room := { frames := 6, cells := 0, slots := 0, locals := 133 }
set_option maxRecDepth 100000 in
set_option maxHeartbeats 4000000 in
theorem ok_L_accounts_124 {E : Ev} {X : Xt} {l0 : Launch} {K : Int32 → Hp → Prop} {C10 : Nat → Int32 → Int32 → Int32 → Int32 → Hp → Prop} (hC : Cx E X l0 RL cL_accounts 6 rm_L_accounts) (hQ : CQ E X "accounts" (some .boolean) rm_L_accounts (KI K)) (hC10 : ∀ (a0 : Nat) (a1 : Int32) (a2 : Int32) (a3 : Int32) (a4 : Int32) (h : Hp), C10 a0 a1 a2 a3 a4 h → WW E X h 0 0 10 [some (rv a0), some (.int a1), some (.int a2), some (.int a3), some (.int a4), none] []) (a0 : Nat) (a1 : Int32) (a2 : Int32) (a4 : Int32) (s0 : Int32) (h : Hp) (hV : V_L_accounts_124 K C10 a0 a1 a2 a4 s0 h) : WW E X h 0 0 124 [some (rv a0), some (.int a1), some (.int a2), none, some (.int a4), none] [.int s0] := by
  unfold V_L_accounts_124 at hV
  refine r_istore_n (ii := 3) (lo1 := [some (rv a0), some (.int a1), some (.int a2), some (.int s0), some (.int a4), none]) hC dL_accounts_124 rfl (Nat.le_of_ble_eq_true rfl) (pvI rfl) rfl ?_
  refine r_iinc (v := 1) (lo1 := [some (rv a0), some (.int a1), some (.int a2), some (.int s0), some (.int (a4 + 1)), none]) hC dL_accounts_125 rfl (by decide) (pvI rfl) rfl ?_
  refine r_goto (tgt := 10) hC dL_accounts_128 (by decide) ?_
  exact hC10 a0 a1 a2 s0 (a4 + 1) h hV
set_option maxRecDepth 100000 in
set_option maxHeartbeats 4000000 in
theorem ok_L_accounts_118 {E : Ev} {X : Xt} {l0 : Launch} {K : Int32 → Hp → Prop} {C10 : Nat → Int32 → Int32 → Int32 → Int32 → Hp → Prop} (hC : Cx E X l0 RL cL_accounts 6 rm_L_accounts) (hQ : CQ E X "accounts" (some .boolean) rm_L_accounts (KI K)) (hC10 : ∀ (a0 : Nat) (a1 : Int32) (a2 : Int32) (a3 : Int32) (a4 : Int32) (h : Hp), C10 a0 a1 a2 a3 a4 h → WW E X h 0 0 10 [some (rv a0), some (.int a1), some (.int a2), some (.int a3), some (.int a4), none] []) (a0 : Nat) (a1 : Int32) (a2 : Int32) (a4 : Int32) (h : Hp) (hV : V_L_accounts_118 K C10 a0 a1 a2 a4 h) : WW E X h 0 0 118 [some (rv a0), some (.int a1), some (.int a2), none, some (.int a4), none] [] := by
  unfold V_L_accounts_118 at hV
  refine r_iload hC dL_accounts_118 rfl ?_
  refine r_goto (tgt := 124) hC dL_accounts_120 (by decide) ?_
  exact ok_L_accounts_124 hC hQ hC10 a0 a1 a2 a4 a4 h hV
set_option maxRecDepth 100000 in
set_option maxHeartbeats 4000000 in
theorem ok_L_accounts_123 {E : Ev} {X : Xt} {l0 : Launch} {K : Int32 → Hp → Prop} {C10 : Nat → Int32 → Int32 → Int32 → Int32 → Hp → Prop} (hC : Cx E X l0 RL cL_accounts 6 rm_L_accounts) (hQ : CQ E X "accounts" (some .boolean) rm_L_accounts (KI K)) (hC10 : ∀ (a0 : Nat) (a1 : Int32) (a2 : Int32) (a3 : Int32) (a4 : Int32) (h : Hp), C10 a0 a1 a2 a3 a4 h → WW E X h 0 0 10 [some (rv a0), some (.int a1), some (.int a2), some (.int a3), some (.int a4), none] []) (a0 : Nat) (a1 : Int32) (a2 : Int32) (a3 : Int32) (a4 : Int32) (h : Hp) (hV : V_L_accounts_123 K C10 a0 a1 a2 a3 a4 h) : WW E X h 0 0 123 [some (rv a0), some (.int a1), some (.int a2), some (.int a3), some (.int a4), none] [] := by
  unfold V_L_accounts_123 at hV
  refine r_iload_n hC dL_accounts_123 rfl ?_
  refine r_sub (lo1 := [some (rv a0), some (.int a1), some (.int a2), none, some (.int a4), none]) ⟨Or.inr rfl, ⟨Or.inr rfl, ⟨Or.inr rfl, ⟨Or.inl rfl, ⟨Or.inr rfl, ⟨Or.inl rfl, trivial⟩⟩⟩⟩⟩⟩ ?_
  exact ok_L_accounts_124 hC hQ hC10 a0 a1 a2 a4 a3 h hV
set_option maxRecDepth 100000 in
set_option maxHeartbeats 4000000 in
theorem ok_L_accounts_91 {E : Ev} {X : Xt} {l0 : Launch} {K : Int32 → Hp → Prop} {C10 : Nat → Int32 → Int32 → Int32 → Int32 → Hp → Prop} (hC : Cx E X l0 RL cL_accounts 6 rm_L_accounts) (hQ : CQ E X "accounts" (some .boolean) rm_L_accounts (KI K)) (hC10 : ∀ (a0 : Nat) (a1 : Int32) (a2 : Int32) (a3 : Int32) (a4 : Int32) (h : Hp), C10 a0 a1 a2 a3 a4 h → WW E X h 0 0 10 [some (rv a0), some (.int a1), some (.int a2), some (.int a3), some (.int a4), none] []) (a0 : Nat) (a1 : Int32) (a3 : Int32) (a4 : Int32) (a5 : Int32) (s0 : Int32) (s1 : Int32) (h : Hp) (hV : V_L_accounts_91 K C10 a0 a1 a3 a4 a5 s0 s1 h) : WW E X h 0 0 91 [some (rv a0), some (.int a1), none, some (.int a3), some (.int a4), some (.int a5)] [.int s1, .int s0] := by
  unfold V_L_accounts_91 at hV
  refine r_iadd hC dL_accounts_91 ?_
  refine r_istore_n (ii := 2) (lo1 := [some (rv a0), some (.int a1), some (.int (s0 + s1)), some (.int a3), some (.int a4), some (.int a5)]) hC dL_accounts_92 rfl (Nat.le_of_ble_eq_true rfl) (pvI rfl) rfl ?_
  refine r_iload hC dL_accounts_93 rfl ?_
  refine r_if_eq (tgt := 123) hC dL_accounts_95 (by decide) (fun k9 => ?_) (fun k9 => ?_)
  · replace hV := hV.1 k9
    refine r_sub (lo1 := [some (rv a0), some (.int a1), some (.int (s0 + s1)), some (.int a3), some (.int a4), none]) ⟨Or.inr rfl, ⟨Or.inr rfl, ⟨Or.inr rfl, ⟨Or.inr rfl, ⟨Or.inr rfl, ⟨Or.inl rfl, trivial⟩⟩⟩⟩⟩⟩ ?_
    exact ok_L_accounts_123 hC hQ hC10 a0 a1 (s0 + s1) a3 a4 h hV
  · replace hV := hV.2 k9
    refine r_iload_n hC dL_accounts_98 rfl ?_
    refine r_if_lt (tgt := 118) hC dL_accounts_99 (by decide) (fun k9 => ?_) (fun k9 => ?_)
    · replace hV := hV.1 k9
      refine r_sub (lo1 := [some (rv a0), some (.int a1), some (.int (s0 + s1)), none, some (.int a4), none]) ⟨Or.inr rfl, ⟨Or.inr rfl, ⟨Or.inr rfl, ⟨Or.inl rfl, ⟨Or.inr rfl, ⟨Or.inl rfl, trivial⟩⟩⟩⟩⟩⟩ ?_
      exact ok_L_accounts_118 hC hQ hC10 a0 a1 (s0 + s1) a4 h hV
    · replace hV := hV.2 k9
      refine r_aload_n hC dL_accounts_102 rfl ?_
      refine r_iload hC dL_accounts_103 rfl ?_
      refine r_iconst (v := 2) hC dL_accounts_105 (by decide) ?_
      obtain ⟨k9, hV⟩ := hV
      refine r_callV (ci := 6) (As := [.int a4, .int 2]) hC dL_accounts_106 rfl cf_X6_job ml_7_23 im_X6_job sl_X6_job lq_6 rfl rfl k9 rfl ⟨(Nat.le_of_ble_eq_true rfl), (Nat.le_of_ble_eq_true rfl), (Nat.le_of_ble_eq_true rfl), (Nat.le_of_ble_eq_true rfl)⟩ cs0 (Nat.le_of_ble_eq_true rfl) (con_X6_job a0 a4 2 h _ hV) rfl (kI (k := 0) (n := 0) (fun r1 h1 hV => ?_))
      refine r_aload_n hC dL_accounts_109 rfl ?_
      refine r_iload_n hC dL_accounts_110 rfl ?_
      refine r_iconst (v := 2) hC dL_accounts_111 (by decide) ?_
      obtain ⟨k9, hV⟩ := hV
      refine r_callV (ci := 6) (As := [.int a3, .int 2]) hC dL_accounts_112 rfl cf_X6_job ml_7_23 im_X6_job sl_X6_job lq_6 rfl rfl k9 rfl ⟨(Nat.le_of_ble_eq_true rfl), (Nat.le_of_ble_eq_true rfl), (Nat.le_of_ble_eq_true rfl), (Nat.le_of_ble_eq_true rfl)⟩ (csI cs0) (Nat.le_of_ble_eq_true rfl) (con_X6_job a0 a3 2 h1 _ hV) rfl (kI (k := 0) (n := 0) (fun r2 h2 hV => ?_))
      refine r_icmp_ge (tgt := 123) hC dL_accounts_115 (by decide) (fun k9 => ?_) (fun k9 => ?_)
      · replace hV := hV.1 k9
        refine r_sub (lo1 := [some (rv a0), some (.int a1), some (.int (s0 + s1)), some (.int a3), some (.int a4), none]) ⟨Or.inr rfl, ⟨Or.inr rfl, ⟨Or.inr rfl, ⟨Or.inr rfl, ⟨Or.inr rfl, ⟨Or.inl rfl, trivial⟩⟩⟩⟩⟩⟩ ?_
        exact ok_L_accounts_123 hC hQ hC10 a0 a1 (s0 + s1) a3 a4 h2 hV
      · replace hV := hV.2 k9
        refine r_sub (lo1 := [some (rv a0), some (.int a1), some (.int (s0 + s1)), none, some (.int a4), none]) ⟨Or.inr rfl, ⟨Or.inr rfl, ⟨Or.inr rfl, ⟨Or.inl rfl, ⟨Or.inr rfl, ⟨Or.inl rfl, trivial⟩⟩⟩⟩⟩⟩ ?_
        exact ok_L_accounts_118 hC hQ hC10 a0 a1 (s0 + s1) a4 h2 hV
set_option maxRecDepth 100000 in
set_option maxHeartbeats 4000000 in
theorem ok_L_accounts_90 {E : Ev} {X : Xt} {l0 : Launch} {K : Int32 → Hp → Prop} {C10 : Nat → Int32 → Int32 → Int32 → Int32 → Hp → Prop} (hC : Cx E X l0 RL cL_accounts 6 rm_L_accounts) (hQ : CQ E X "accounts" (some .boolean) rm_L_accounts (KI K)) (hC10 : ∀ (a0 : Nat) (a1 : Int32) (a2 : Int32) (a3 : Int32) (a4 : Int32) (h : Hp), C10 a0 a1 a2 a3 a4 h → WW E X h 0 0 10 [some (rv a0), some (.int a1), some (.int a2), some (.int a3), some (.int a4), none] []) (a0 : Nat) (a1 : Int32) (a3 : Int32) (a4 : Int32) (a5 : Int32) (s0 : Int32) (h : Hp) (hV : V_L_accounts_90 K C10 a0 a1 a3 a4 a5 s0 h) : WW E X h 0 0 90 [some (rv a0), some (.int a1), none, some (.int a3), some (.int a4), some (.int a5)] [.int s0] := by
  unfold V_L_accounts_90 at hV
  refine r_iconst (v := 0) hC dL_accounts_90 (by decide) ?_
  exact ok_L_accounts_91 hC hQ hC10 a0 a1 a3 a4 a5 s0 0 h hV
set_option maxRecDepth 100000 in
set_option maxHeartbeats 4000000 in
theorem ok_L_accounts_62 {E : Ev} {X : Xt} {l0 : Launch} {K : Int32 → Hp → Prop} {C10 : Nat → Int32 → Int32 → Int32 → Int32 → Hp → Prop} (hC : Cx E X l0 RL cL_accounts 6 rm_L_accounts) (hQ : CQ E X "accounts" (some .boolean) rm_L_accounts (KI K)) (hC10 : ∀ (a0 : Nat) (a1 : Int32) (a2 : Int32) (a3 : Int32) (a4 : Int32) (h : Hp), C10 a0 a1 a2 a3 a4 h → WW E X h 0 0 10 [some (rv a0), some (.int a1), some (.int a2), some (.int a3), some (.int a4), none] []) (a0 : Nat) (a2 : Int32) (a3 : Int32) (a4 : Int32) (a5 : Int32) (s0 : Int32) (s1 : Int32) (h : Hp) (hV : V_L_accounts_62 K C10 a0 a2 a3 a4 a5 s0 s1 h) : WW E X h 0 0 62 [some (rv a0), none, some (.int a2), some (.int a3), some (.int a4), some (.int a5)] [.int s1, .int s0] := by
  unfold V_L_accounts_62 at hV
  refine r_iadd hC dL_accounts_62 ?_
  refine r_istore_n (ii := 1) (lo1 := [some (rv a0), some (.int (s0 + s1)), some (.int a2), some (.int a3), some (.int a4), some (.int a5)]) hC dL_accounts_63 rfl (Nat.le_of_ble_eq_true rfl) (pvR rfl) rfl ?_
  refine r_iload_n hC dL_accounts_64 rfl ?_
  refine r_iload hC dL_accounts_65 rfl ?_
  refine r_if_eq (tgt := 90) hC dL_accounts_67 (by decide) (fun k9 => ?_) (fun k9 => ?_)
  · replace hV := hV.1 k9
    refine r_sub (lo1 := [some (rv a0), some (.int (s0 + s1)), none, some (.int a3), some (.int a4), some (.int a5)]) ⟨Or.inr rfl, ⟨Or.inr rfl, ⟨Or.inl rfl, ⟨Or.inr rfl, ⟨Or.inr rfl, ⟨Or.inr rfl, trivial⟩⟩⟩⟩⟩⟩ ?_
    exact ok_L_accounts_90 hC hQ hC10 a0 (s0 + s1) a3 a4 a5 a2 h hV
  · replace hV := hV.2 k9
    refine r_aload_n hC dL_accounts_70 rfl ?_
    refine r_iload hC dL_accounts_71 rfl ?_
    refine r_iconst (v := 2) hC dL_accounts_73 (by decide) ?_
    obtain ⟨k9, hV⟩ := hV
    refine r_callV (ci := 6) (As := [.int a4, .int 2]) hC dL_accounts_74 rfl cf_X6_job ml_7_23 im_X6_job sl_X6_job lq_6 rfl rfl k9 rfl ⟨(Nat.le_of_ble_eq_true rfl), (Nat.le_of_ble_eq_true rfl), (Nat.le_of_ble_eq_true rfl), (Nat.le_of_ble_eq_true rfl)⟩ (csI cs0) (Nat.le_of_ble_eq_true rfl) (con_X6_job a0 a4 2 h _ hV) rfl (kI (k := 0) (n := 0) (fun r1 h1 hV => ?_))
    refine r_aload_n hC dL_accounts_77 rfl ?_
    refine r_bipush (v := 11) hC dL_accounts_78 (by decide) ?_
    obtain ⟨k9, hV⟩ := hV
    refine r_callV (ci := 6) (As := [.int 11]) hC dL_accounts_80 rfl cf_X6_count ml_7_13 im_X6_count sl_X6_count lq_6 rfl rfl k9 rfl ⟨(Nat.le_of_ble_eq_true rfl), (Nat.le_of_ble_eq_true rfl), (Nat.le_of_ble_eq_true rfl), (Nat.le_of_ble_eq_true rfl)⟩ (csI (csI cs0)) (Nat.le_of_ble_eq_true rfl) (con_X6_count a0 11 h1 _ hV) rfl (kI (k := 0) (n := 0) (fun r2 h2 hV => ?_))
    refine r_icmp_ge (tgt := 90) hC dL_accounts_83 (by decide) (fun k9 => ?_) (fun k9 => ?_)
    · replace hV := hV.1 k9
      refine r_sub (lo1 := [some (rv a0), some (.int (s0 + s1)), none, some (.int a3), some (.int a4), some (.int a5)]) ⟨Or.inr rfl, ⟨Or.inr rfl, ⟨Or.inl rfl, ⟨Or.inr rfl, ⟨Or.inr rfl, ⟨Or.inr rfl, trivial⟩⟩⟩⟩⟩⟩ ?_
      exact ok_L_accounts_90 hC hQ hC10 a0 (s0 + s1) a3 a4 a5 a2 h2 hV
    · replace hV := hV.2 k9
      refine r_iconst (v := 1) hC dL_accounts_86 (by decide) ?_
      refine r_goto (tgt := 91) hC dL_accounts_87 (by decide) ?_
      refine r_sub (lo1 := [some (rv a0), some (.int (s0 + s1)), none, some (.int a3), some (.int a4), some (.int a5)]) ⟨Or.inr rfl, ⟨Or.inr rfl, ⟨Or.inl rfl, ⟨Or.inr rfl, ⟨Or.inr rfl, ⟨Or.inr rfl, trivial⟩⟩⟩⟩⟩⟩ ?_
      exact ok_L_accounts_91 hC hQ hC10 a0 (s0 + s1) a3 a4 a5 a2 1 h2 hV
set_option maxRecDepth 100000 in
set_option maxHeartbeats 4000000 in
theorem ok_L_accounts_36 {E : Ev} {X : Xt} {l0 : Launch} {K : Int32 → Hp → Prop} {C10 : Nat → Int32 → Int32 → Int32 → Int32 → Hp → Prop} (hC : Cx E X l0 RL cL_accounts 6 rm_L_accounts) (hQ : CQ E X "accounts" (some .boolean) rm_L_accounts (KI K)) (hC10 : ∀ (a0 : Nat) (a1 : Int32) (a2 : Int32) (a3 : Int32) (a4 : Int32) (h : Hp), C10 a0 a1 a2 a3 a4 h → WW E X h 0 0 10 [some (rv a0), some (.int a1), some (.int a2), some (.int a3), some (.int a4), none] []) (a0 : Nat) (a1 : Int32) (a2 : Int32) (a3 : Int32) (a4 : Int32) (s0 : Int32) (h : Hp) (hV : V_L_accounts_36 K C10 a0 a1 a2 a3 a4 s0 h) : WW E X h 0 0 36 [some (rv a0), some (.int a1), some (.int a2), some (.int a3), some (.int a4), none] [.int s0] := by
  unfold V_L_accounts_36 at hV
  refine r_istore (lo1 := [some (rv a0), some (.int a1), some (.int a2), some (.int a3), some (.int a4), some (.int s0)]) hC dL_accounts_36 (Nat.le_of_ble_eq_true rfl) (pvI rfl) rfl ?_
  refine r_iload_n hC dL_accounts_38 rfl ?_
  refine r_aload_n hC dL_accounts_39 rfl ?_
  refine r_iload hC dL_accounts_40 rfl ?_
  refine r_bipush (v := 10) hC dL_accounts_42 (by decide) ?_
  obtain ⟨k9, hV⟩ := hV
  refine r_callV (ci := 6) (As := [.int a4, .int 10]) hC dL_accounts_44 rfl cf_X6_job ml_7_23 im_X6_job sl_X6_job lq_6 rfl rfl k9 rfl ⟨(Nat.le_of_ble_eq_true rfl), (Nat.le_of_ble_eq_true rfl), (Nat.le_of_ble_eq_true rfl), (Nat.le_of_ble_eq_true rfl)⟩ (csI cs0) (Nat.le_of_ble_eq_true rfl) (con_X6_job a0 a4 10 h _ hV) rfl (kI (k := 0) (n := 0) (fun r1 h1 hV => ?_))
  refine r_if_le (tgt := 61) hC dL_accounts_47 (by decide) (fun k9 => ?_) (fun k9 => ?_)
  · replace hV := hV.1 k9
    refine r_iconst (v := 0) hC dL_accounts_61 (by decide) ?_
    refine r_sub (lo1 := [some (rv a0), none, some (.int a2), some (.int a3), some (.int a4), some (.int s0)]) ⟨Or.inr rfl, ⟨Or.inl rfl, ⟨Or.inr rfl, ⟨Or.inr rfl, ⟨Or.inr rfl, ⟨Or.inr rfl, trivial⟩⟩⟩⟩⟩⟩ ?_
    exact ok_L_accounts_62 hC hQ hC10 a0 a2 a3 a4 s0 a1 0 h1 hV
  · replace hV := hV.2 k9
    refine r_aload_n hC dL_accounts_50 rfl ?_
    refine r_iload hC dL_accounts_51 rfl ?_
    refine r_bipush (v := 10) hC dL_accounts_53 (by decide) ?_
    obtain ⟨k9, hV⟩ := hV
    refine r_callV (ci := 6) (As := [.int a4, .int 10]) hC dL_accounts_55 rfl cf_X6_job ml_7_23 im_X6_job sl_X6_job lq_6 rfl rfl k9 rfl ⟨(Nat.le_of_ble_eq_true rfl), (Nat.le_of_ble_eq_true rfl), (Nat.le_of_ble_eq_true rfl), (Nat.le_of_ble_eq_true rfl)⟩ (csI cs0) (Nat.le_of_ble_eq_true rfl) (con_X6_job a0 a4 10 h1 _ hV) rfl (kI (k := 0) (n := 0) (fun r2 h2 hV => ?_))
    refine r_goto (tgt := 62) hC dL_accounts_58 (by decide) ?_
    refine r_sub (lo1 := [some (rv a0), none, some (.int a2), some (.int a3), some (.int a4), some (.int s0)]) ⟨Or.inr rfl, ⟨Or.inl rfl, ⟨Or.inr rfl, ⟨Or.inr rfl, ⟨Or.inr rfl, ⟨Or.inr rfl, trivial⟩⟩⟩⟩⟩⟩ ?_
    exact ok_L_accounts_62 hC hQ hC10 a0 a2 a3 a4 s0 a1 r2 h2 hV
set_option maxRecDepth 100000 in
set_option maxHeartbeats 4000000 in
theorem ok_L_accounts_189 {E : Ev} {X : Xt} {l0 : Launch} {K : Int32 → Hp → Prop} (hC : Cx E X l0 RL cL_accounts 6 rm_L_accounts) (hQ : CQ E X "accounts" (some .boolean) rm_L_accounts (KI K)) (s0 : Int32) (h : Hp) (hV : V_L_accounts_189 K s0 h) : WW E X h 0 0 189 [none, none, none, none, none, none] [.int s0] := by
  unfold V_L_accounts_189 at hV
  exact r_zret hC hQ dL_accounts_189 (Nat.le_of_ble_eq_true rfl) (Nat.le_of_ble_eq_true rfl) hV.1 ⟨_, rfl, hV.2⟩
set_option maxRecDepth 100000 in
set_option maxHeartbeats 4000000 in
theorem ok_L_accounts_188 {E : Ev} {X : Xt} {l0 : Launch} {K : Int32 → Hp → Prop} (hC : Cx E X l0 RL cL_accounts 6 rm_L_accounts) (hQ : CQ E X "accounts" (some .boolean) rm_L_accounts (KI K)) (h : Hp) (hV : V_L_accounts_188 K  h) : WW E X h 0 0 188 [none, none, none, none, none, none] [] := by
  unfold V_L_accounts_188 at hV
  refine r_iconst (v := 0) hC dL_accounts_188 (by decide) ?_
  exact ok_L_accounts_189 hC hQ 0 h hV
set_option maxRecDepth 100000 in
set_option maxHeartbeats 4000000 in
theorem ok_L_accounts_10 {E : Ev} {X : Xt} {l0 : Launch} {K : Int32 → Hp → Prop} (hC : Cx E X l0 RL cL_accounts 6 rm_L_accounts) (hQ : CQ E X "accounts" (some .boolean) rm_L_accounts (KI K)) : ∀ (n : Nat) (a0 : Nat) (a1 : Int32) (a2 : Int32) (a3 : Int32) (a4 : Int32) (h : Hp), V_L_accounts_10 K n a0 a1 a2 a3 a4 h → WW E X h 0 0 10 [some (rv a0), some (.int a1), some (.int a2), some (.int a3), some (.int a4), none] [] := by
  intro n
  induction n with
  | zero => intro a0 a1 a2 a3 a4 h hV; exact hV.elim
  | succ n ih =>
    intro a0 a1 a2 a3 a4 h hV
    unfold V_L_accounts_10 at hV
    refine r_iload hC dL_accounts_10 rfl ?_
    refine r_aload_n hC dL_accounts_12 rfl ?_
    refine r_iconst (v := 1) hC dL_accounts_13 (by decide) ?_
    obtain ⟨k9, hV⟩ := hV
    refine r_callV (ci := 6) (As := [.int 1]) hC dL_accounts_14 rfl cf_X6_count ml_7_13 im_X6_count sl_X6_count lq_6 rfl rfl k9 rfl ⟨(Nat.le_of_ble_eq_true rfl), (Nat.le_of_ble_eq_true rfl), (Nat.le_of_ble_eq_true rfl), (Nat.le_of_ble_eq_true rfl)⟩ (csI cs0) (Nat.le_of_ble_eq_true rfl) (con_X6_count a0 1 h _ hV) rfl (kI (k := 0) (n := 0) (fun r1 h1 hV => ?_))
    refine r_icmp_ge (tgt := 131) hC dL_accounts_17 (by decide) (fun k9 => ?_) (fun k9 => ?_)
    · replace hV := hV.1 k9
      refine r_aload_n hC dL_accounts_131 rfl ?_
      refine r_bipush (v := 12) hC dL_accounts_132 (by decide) ?_
      obtain ⟨k9, hV⟩ := hV
      refine r_callV (ci := 6) (As := [.int 12]) hC dL_accounts_134 rfl cf_X6_count ml_7_13 im_X6_count sl_X6_count lq_6 rfl rfl k9 rfl ⟨(Nat.le_of_ble_eq_true rfl), (Nat.le_of_ble_eq_true rfl), (Nat.le_of_ble_eq_true rfl), (Nat.le_of_ble_eq_true rfl)⟩ cs0 (Nat.le_of_ble_eq_true rfl) (con_X6_count a0 12 h1 _ hV) rfl (kI (k := 0) (n := 0) (fun r2 h2 hV => ?_))
      refine r_iload_n hC dL_accounts_137 rfl ?_
      refine r_icmp_ne (tgt := 188) hC dL_accounts_138 (by decide) (fun k9 => ?_) (fun k9 => ?_)
      · replace hV := hV.1 k9
        refine r_sub (lo1 := [none, none, none, none, none, none]) ⟨Or.inl rfl, ⟨Or.inl rfl, ⟨Or.inl rfl, ⟨Or.inl rfl, ⟨Or.inl rfl, ⟨Or.inl rfl, trivial⟩⟩⟩⟩⟩⟩ ?_
        exact ok_L_accounts_188 hC hQ  h2 hV
      · replace hV := hV.2 k9
        refine r_aload_n hC dL_accounts_141 rfl ?_
        refine r_bipush (v := 13) hC dL_accounts_142 (by decide) ?_
        obtain ⟨k9, hV⟩ := hV
        refine r_callV (ci := 6) (As := [.int 13]) hC dL_accounts_144 rfl cf_X6_count ml_7_13 im_X6_count sl_X6_count lq_6 rfl rfl k9 rfl ⟨(Nat.le_of_ble_eq_true rfl), (Nat.le_of_ble_eq_true rfl), (Nat.le_of_ble_eq_true rfl), (Nat.le_of_ble_eq_true rfl)⟩ cs0 (Nat.le_of_ble_eq_true rfl) (con_X6_count a0 13 h2 _ hV) rfl (kI (k := 0) (n := 0) (fun r3 h3 hV => ?_))
        refine r_iload_n hC dL_accounts_147 rfl ?_
        refine r_icmp_ne (tgt := 188) hC dL_accounts_148 (by decide) (fun k9 => ?_) (fun k9 => ?_)
        · replace hV := hV.1 k9
          refine r_sub (lo1 := [none, none, none, none, none, none]) ⟨Or.inl rfl, ⟨Or.inl rfl, ⟨Or.inl rfl, ⟨Or.inl rfl, ⟨Or.inl rfl, ⟨Or.inl rfl, trivial⟩⟩⟩⟩⟩⟩ ?_
          exact ok_L_accounts_188 hC hQ  h3 hV
        · replace hV := hV.2 k9
          refine r_aload_n hC dL_accounts_151 rfl ?_
          obtain ⟨k9, hV⟩ := hV
          refine r_callV (ci := 6) (As := []) hC dL_accounts_152 rfl cf_X6_urgent ml_7_44 im_X6_urgent sl_X6_urgent lq_6 rfl rfl k9 rfl ⟨(Nat.le_of_ble_eq_true rfl), (Nat.le_of_ble_eq_true rfl), (Nat.le_of_ble_eq_true rfl), (Nat.le_of_ble_eq_true rfl)⟩ cs0 (Nat.le_of_ble_eq_true rfl) (con_X6_urgent a0 h3 _ hV) rfl (kI (k := 0) (n := 0) (fun r4 h4 hV => ?_))
          refine r_iload_n hC dL_accounts_155 rfl ?_
          refine r_icmp_ne (tgt := 188) hC dL_accounts_156 (by decide) (fun k9 => ?_) (fun k9 => ?_)
          · replace hV := hV.1 k9
            refine r_sub (lo1 := [none, none, none, none, none, none]) ⟨Or.inl rfl, ⟨Or.inl rfl, ⟨Or.inl rfl, ⟨Or.inl rfl, ⟨Or.inl rfl, ⟨Or.inl rfl, trivial⟩⟩⟩⟩⟩⟩ ?_
            exact ok_L_accounts_188 hC hQ  h4 hV
          · replace hV := hV.2 k9
            refine r_aload_n hC dL_accounts_159 rfl ?_
            refine r_aload_n hC dL_accounts_160 rfl ?_
            refine r_iconst (v := 1) hC dL_accounts_161 (by decide) ?_
            obtain ⟨k9, hV⟩ := hV
            refine r_callV (ci := 6) (As := [.int 1]) hC dL_accounts_162 rfl cf_X6_count ml_7_13 im_X6_count sl_X6_count lq_6 rfl rfl k9 rfl ⟨(Nat.le_of_ble_eq_true rfl), (Nat.le_of_ble_eq_true rfl), (Nat.le_of_ble_eq_true rfl), (Nat.le_of_ble_eq_true rfl)⟩ (csR cs0) (Nat.le_of_ble_eq_true rfl) (con_X6_count a0 1 h4 _ hV) rfl (kI (k := 0) (n := 0) (fun r5 h5 hV => ?_))
            refine r_iconst (v := 0) hC dL_accounts_165 (by decide) ?_
            obtain ⟨k9, hV⟩ := hV
            refine r_callV (ci := 6) (As := [.int r5, .int 0]) hC dL_accounts_166 rfl cf_X6_job ml_7_23 im_X6_job sl_X6_job lq_6 rfl rfl k9 rfl ⟨(Nat.le_of_ble_eq_true rfl), (Nat.le_of_ble_eq_true rfl), (Nat.le_of_ble_eq_true rfl), (Nat.le_of_ble_eq_true rfl)⟩ cs0 (Nat.le_of_ble_eq_true rfl) (con_X6_job a0 r5 0 h5 _ hV) rfl (kI (k := 0) (n := 0) (fun r6 h6 hV => ?_))
            refine r_iconst (v := (-1)) hC dL_accounts_169 (by decide) ?_
            refine r_icmp_ne (tgt := 188) hC dL_accounts_170 (by decide) (fun k9 => ?_) (fun k9 => ?_)
            · replace hV := hV.1 k9
              refine r_sub (lo1 := [none, none, none, none, none, none]) ⟨Or.inl rfl, ⟨Or.inl rfl, ⟨Or.inl rfl, ⟨Or.inl rfl, ⟨Or.inl rfl, ⟨Or.inl rfl, trivial⟩⟩⟩⟩⟩⟩ ?_
              exact ok_L_accounts_188 hC hQ  h6 hV
            · replace hV := hV.2 k9
              refine r_aload_n hC dL_accounts_173 rfl ?_
              refine r_bipush (v := 16) hC dL_accounts_174 (by decide) ?_
              obtain ⟨k9, hV⟩ := hV
              refine r_callV (ci := 6) (As := [.int 16]) hC dL_accounts_176 rfl cf_X6_count ml_7_13 im_X6_count sl_X6_count lq_6 rfl rfl k9 rfl ⟨(Nat.le_of_ble_eq_true rfl), (Nat.le_of_ble_eq_true rfl), (Nat.le_of_ble_eq_true rfl), (Nat.le_of_ble_eq_true rfl)⟩ cs0 (Nat.le_of_ble_eq_true rfl) (con_X6_count a0 16 h6 _ hV) rfl (kI (k := 0) (n := 0) (fun r7 h7 hV => ?_))
              refine r_bipush (v := (-2)) hC dL_accounts_179 (by decide) ?_
              refine r_icmp_ne (tgt := 188) hC dL_accounts_181 (by decide) (fun k9 => ?_) (fun k9 => ?_)
              · replace hV := hV.1 k9
                refine r_sub (lo1 := [none, none, none, none, none, none]) ⟨Or.inl rfl, ⟨Or.inl rfl, ⟨Or.inl rfl, ⟨Or.inl rfl, ⟨Or.inl rfl, ⟨Or.inl rfl, trivial⟩⟩⟩⟩⟩⟩ ?_
                exact ok_L_accounts_188 hC hQ  h7 hV
              · replace hV := hV.2 k9
                refine r_iconst (v := 1) hC dL_accounts_184 (by decide) ?_
                refine r_goto (tgt := 189) hC dL_accounts_185 (by decide) ?_
                refine r_sub (lo1 := [none, none, none, none, none, none]) ⟨Or.inl rfl, ⟨Or.inl rfl, ⟨Or.inl rfl, ⟨Or.inl rfl, ⟨Or.inl rfl, ⟨Or.inl rfl, trivial⟩⟩⟩⟩⟩⟩ ?_
                exact ok_L_accounts_189 hC hQ 1 h7 hV
    · replace hV := hV.2 k9
      refine r_aload_n hC dL_accounts_20 rfl ?_
      refine r_iload hC dL_accounts_21 rfl ?_
      refine r_iconst (v := 3) hC dL_accounts_23 (by decide) ?_
      obtain ⟨k9, hV⟩ := hV
      refine r_callV (ci := 6) (As := [.int a4, .int 3]) hC dL_accounts_24 rfl cf_X6_job ml_7_23 im_X6_job sl_X6_job lq_6 rfl rfl k9 rfl ⟨(Nat.le_of_ble_eq_true rfl), (Nat.le_of_ble_eq_true rfl), (Nat.le_of_ble_eq_true rfl), (Nat.le_of_ble_eq_true rfl)⟩ cs0 (Nat.le_of_ble_eq_true rfl) (con_X6_job a0 a4 3 h1 _ hV) rfl (kI (k := 0) (n := 0) (fun r2 h2 hV => ?_))
      refine r_iconst (v := 2) hC dL_accounts_27 (by decide) ?_
      refine r_icmp_ge (tgt := 35) hC dL_accounts_28 (by decide) (fun k9 => ?_) (fun k9 => ?_)
      · replace hV := hV.1 k9
        refine r_iconst (v := 0) hC dL_accounts_35 (by decide) ?_
        exact ok_L_accounts_36 hC hQ ih a0 a1 a2 a3 a4 0 h2 hV
      · replace hV := hV.2 k9
        refine r_iconst (v := 1) hC dL_accounts_31 (by decide) ?_
        refine r_goto (tgt := 36) hC dL_accounts_32 (by decide) ?_
        exact ok_L_accounts_36 hC hQ ih a0 a1 a2 a3 a4 1 h2 hV
set_option maxRecDepth 100000 in
set_option maxHeartbeats 4000000 in
theorem ok_L_accounts_0 {E : Ev} {X : Xt} {l0 : Launch} {K : Int32 → Hp → Prop} (hC : Cx E X l0 RL cL_accounts 6 rm_L_accounts) (hQ : CQ E X "accounts" (some .boolean) rm_L_accounts (KI K)) (a0 : Nat) (h : Hp) (hV : V_L_accounts a0 h K) : WW E X h 0 0 0 [some (rv a0), none, none, none, none, none] [] := by
  unfold V_L_accounts at hV
  refine r_iconst (v := 0) hC dL_accounts_0 (by decide) ?_
  refine r_istore_n (ii := 1) (lo1 := [some (rv a0), some (.int 0), none, none, none, none]) hC dL_accounts_1 rfl (Nat.le_of_ble_eq_true rfl) (pvR rfl) rfl ?_
  refine r_iconst (v := 0) hC dL_accounts_2 (by decide) ?_
  refine r_istore_n (ii := 2) (lo1 := [some (rv a0), some (.int 0), some (.int 0), none, none, none]) hC dL_accounts_3 rfl (Nat.le_of_ble_eq_true rfl) (pvI rfl) rfl ?_
  refine r_bipush (v := (-5)) hC dL_accounts_4 (by decide) ?_
  refine r_istore_n (ii := 3) (lo1 := [some (rv a0), some (.int 0), some (.int 0), some (.int (-5)), none, none]) hC dL_accounts_6 rfl (Nat.le_of_ble_eq_true rfl) (pvI rfl) rfl ?_
  refine r_iconst (v := 0) hC dL_accounts_7 (by decide) ?_
  refine r_istore (lo1 := [some (rv a0), some (.int 0), some (.int 0), some (.int (-5)), some (.int 0), none]) hC dL_accounts_8 (Nat.le_of_ble_eq_true rfl) (pvI rfl) rfl ?_
  obtain ⟨n9, hV⟩ := hV
  exact ok_L_accounts_10 hC hQ n9 a0 0 0 (-5) 0 h hV
set_option maxRecDepth 100000 in
set_option maxHeartbeats 4000000 in
theorem con_L_accounts {E : Ev} {l0 : Launch} (a0 : Nat) (h : Hp) (K : Int32 → Hp → Prop) (hV : V_L_accounts a0 h K) : Con E l0 yL_accounts cL_accounts 6 (some .boolean) rm_L_accounts [rv a0] h (KI K) := by
  refine Con.of (by decide +kernel) (cat_R cat_nil) (Nat.le_of_ble_eq_true rfl) (fun X hC hQ => ?_)
  refine r_sub (lo1 := [some (rv a0), none, none, none, none, none]) (show lsub [some (rv a0), none, none, none, none, none] _ from ⟨Or.inr rfl, ⟨Or.inr rfl, ⟨Or.inr rfl, ⟨Or.inr rfl, ⟨Or.inr rfl, ⟨Or.inr rfl, trivial⟩⟩⟩⟩⟩⟩) ?_
  exact ok_L_accounts_0 hC hQ a0 h hV
theorem dL_low_0 : decode cL_low 0 = .ok (.iload_n 0, 1) := by decide +kernel
theorem dL_low_1 : decode cL_low 1 = .ok (.ldc 8, 2) := by decide +kernel
theorem dL_low_3 : decode cL_low 3 = .ok (.iand, 1) := by decide +kernel
theorem dL_low_4 : decode cL_low 4 = .ok (.iload_n 1, 1) := by decide +kernel
theorem dL_low_5 : decode cL_low 5 = .ok (.irem, 1) := by decide +kernel
theorem dL_low_6 : decode cL_low 6 = .ok (.ireturn, 1) := by decide +kernel
def rm_L_low : Room := { frames := 0, cells := 0, slots := 0, locals := 0 }
set_option maxRecDepth 100000 in
set_option maxHeartbeats 4000000 in
theorem ok_L_low_0 {E : Ev} {X : Xt} {l0 : Launch} {K : Int32 → Hp → Prop} (hC : Cx E X l0 RL cL_low 2 rm_L_low) (hQ : CQ E X "low" (some .int) rm_L_low (KI K)) (a0 : Int32) (a1 : Int32) (h : Hp) (hV : V_L_low a0 a1 h K) : WW E X h 0 0 0 [some (.int a0), some (.int a1)] [] := by
  unfold V_L_low at hV
  refine r_iload_n hC dL_low_0 rfl ?_
  refine r_ldc (v := 2147483647) hC dL_low_1 kc_7_8 ?_
  refine r_iand hC dL_low_3 ?_
  refine r_iload_n hC dL_low_4 rfl ?_
  obtain ⟨k9, hV⟩ := hV
  refine r_irem hC dL_low_5 k9 ?_
  exact r_iret hC hQ dL_low_6 (Nat.le_of_ble_eq_true rfl) (Nat.le_of_ble_eq_true rfl) ⟨_, rfl, hV⟩
set_option maxRecDepth 100000 in
set_option maxHeartbeats 4000000 in
theorem con_L_low {E : Ev} {l0 : Launch} (a0 : Int32) (a1 : Int32) (h : Hp) (K : Int32 → Hp → Prop) (hV : V_L_low a0 a1 h K) : Con E l0 yL_low cL_low 2 (some .int) rm_L_low [.int a0, .int a1] h (KI K) := by
  refine Con.of (by decide +kernel) (cat_I (cat_I cat_nil)) (Nat.le_of_ble_eq_true rfl) (fun X hC hQ => ?_)
  refine r_sub (lo1 := [some (.int a0), some (.int a1)]) (show lsub [some (.int a0), some (.int a1)] _ from ⟨Or.inr rfl, ⟨Or.inr rfl, trivial⟩⟩) ?_
  exact ok_L_low_0 hC hQ a0 a1 h hV
theorem dL_width_0 : decode cL_width 0 = .ok (.iload_n 0, 1) := by decide +kernel
theorem dL_width_1 : decode cL_width 1 = .ok (.bipush 26, 2) := by decide +kernel
theorem dL_width_3 : decode cL_width 3 = .ok (.if_icmp .ge 11, 3) := by decide +kernel
theorem dL_width_6 : decode cL_width 6 = .ok (.iconst 2, 1) := by decide +kernel
theorem dL_width_7 : decode cL_width 7 = .ok (.iload_n 0, 1) := by decide +kernel
theorem dL_width_8 : decode cL_width 8 = .ok (.iconst 5, 1) := by decide +kernel
theorem dL_width_9 : decode cL_width 9 = .ok (.irem, 1) := by decide +kernel
theorem dL_width_10 : decode cL_width 10 = .ok (.iadd, 1) := by decide +kernel
theorem dL_width_11 : decode cL_width 11 = .ok (.goto 24, 3) := by decide +kernel
theorem dL_width_14 : decode cL_width 14 = .ok (.iload_n 0, 1) := by decide +kernel
theorem dL_width_15 : decode cL_width 15 = .ok (.bipush 26, 2) := by decide +kernel
theorem dL_width_17 : decode cL_width 17 = .ok (.if_icmp .ne 7, 3) := by decide +kernel
theorem dL_width_20 : decode cL_width 20 = .ok (.iconst 4, 1) := by decide +kernel
theorem dL_width_21 : decode cL_width 21 = .ok (.goto 14, 3) := by decide +kernel
theorem dL_width_24 : decode cL_width 24 = .ok (.iload_n 0, 1) := by decide +kernel
theorem dL_width_25 : decode cL_width 25 = .ok (.bipush 27, 2) := by decide +kernel
theorem dL_width_27 : decode cL_width 27 = .ok (.if_icmp .ne 7, 3) := by decide +kernel
theorem dL_width_30 : decode cL_width 30 = .ok (.iconst 2, 1) := by decide +kernel
theorem dL_width_31 : decode cL_width 31 = .ok (.goto 4, 3) := by decide +kernel
theorem dL_width_34 : decode cL_width 34 = .ok (.iconst 1, 1) := by decide +kernel
theorem dL_width_35 : decode cL_width 35 = .ok (.ireturn, 1) := by decide +kernel
def rm_L_width : Room := { frames := 0, cells := 0, slots := 0, locals := 0 }
set_option maxRecDepth 100000 in
set_option maxHeartbeats 4000000 in
theorem ok_L_width_35 {E : Ev} {X : Xt} {l0 : Launch} {K : Int32 → Hp → Prop} (hC : Cx E X l0 RL cL_width 1 rm_L_width) (hQ : CQ E X "width" (some .int) rm_L_width (KI K)) (s0 : Int32) (h : Hp) (hV : V_L_width_35 K s0 h) : WW E X h 0 0 35 [none] [.int s0] := by
  unfold V_L_width_35 at hV
  exact r_iret hC hQ dL_width_35 (Nat.le_of_ble_eq_true rfl) (Nat.le_of_ble_eq_true rfl) ⟨_, rfl, hV⟩
set_option maxRecDepth 100000 in
set_option maxHeartbeats 4000000 in
theorem ok_L_width_0 {E : Ev} {X : Xt} {l0 : Launch} {K : Int32 → Hp → Prop} (hC : Cx E X l0 RL cL_width 1 rm_L_width) (hQ : CQ E X "width" (some .int) rm_L_width (KI K)) (a0 : Int32) (h : Hp) (hV : V_L_width a0 h K) : WW E X h 0 0 0 [some (.int a0)] [] := by
  unfold V_L_width at hV
  refine r_iload_n hC dL_width_0 rfl ?_
  refine r_bipush (v := 26) hC dL_width_1 (by decide) ?_
  refine r_icmp_ge (tgt := 14) hC dL_width_3 (by decide) (fun k9 => ?_) (fun k9 => ?_)
  · replace hV := hV.1 k9
    refine r_iload_n hC dL_width_14 rfl ?_
    refine r_bipush (v := 26) hC dL_width_15 (by decide) ?_
    refine r_icmp_ne (tgt := 24) hC dL_width_17 (by decide) (fun k9 => ?_) (fun k9 => ?_)
    · replace hV := hV.1 k9
      refine r_iload_n hC dL_width_24 rfl ?_
      refine r_bipush (v := 27) hC dL_width_25 (by decide) ?_
      refine r_icmp_ne (tgt := 34) hC dL_width_27 (by decide) (fun k9 => ?_) (fun k9 => ?_)
      · replace hV := hV.1 k9
        refine r_iconst (v := 1) hC dL_width_34 (by decide) ?_
        refine r_sub (lo1 := [none]) ⟨Or.inl rfl, trivial⟩ ?_
        exact ok_L_width_35 hC hQ 1 h hV
      · replace hV := hV.2 k9
        refine r_iconst (v := 2) hC dL_width_30 (by decide) ?_
        refine r_goto (tgt := 35) hC dL_width_31 (by decide) ?_
        refine r_sub (lo1 := [none]) ⟨Or.inl rfl, trivial⟩ ?_
        exact ok_L_width_35 hC hQ 2 h hV
    · replace hV := hV.2 k9
      refine r_iconst (v := 4) hC dL_width_20 (by decide) ?_
      refine r_goto (tgt := 35) hC dL_width_21 (by decide) ?_
      refine r_sub (lo1 := [none]) ⟨Or.inl rfl, trivial⟩ ?_
      exact ok_L_width_35 hC hQ 4 h hV
  · replace hV := hV.2 k9
    refine r_iconst (v := 2) hC dL_width_6 (by decide) ?_
    refine r_iload_n hC dL_width_7 rfl ?_
    refine r_iconst (v := 5) hC dL_width_8 (by decide) ?_
    refine r_irem hC dL_width_9 (by decide) ?_
    refine r_iadd hC dL_width_10 ?_
    refine r_goto (tgt := 35) hC dL_width_11 (by decide) ?_
    refine r_sub (lo1 := [none]) ⟨Or.inl rfl, trivial⟩ ?_
    exact ok_L_width_35 hC hQ (2 + (a0 - a0 / 5 * 5)) h hV
set_option maxRecDepth 100000 in
set_option maxHeartbeats 4000000 in
theorem con_L_width {E : Ev} {l0 : Launch} (a0 : Int32) (h : Hp) (K : Int32 → Hp → Prop) (hV : V_L_width a0 h K) : Con E l0 yL_width cL_width 1 (some .int) rm_L_width [.int a0] h (KI K) := by
  refine Con.of (by decide +kernel) (cat_I cat_nil) (Nat.le_of_ble_eq_true rfl) (fun X hC hQ => ?_)
  refine r_sub (lo1 := [some (.int a0)]) (show lsub [some (.int a0)] _ from ⟨Or.inr rfl, trivial⟩) ?_
  exact ok_L_width_0 hC hQ a0 h hV
theorem dL_cases_0 : decode cL_cases 0 = .ok (.aload_n 0, 1) := by decide +kernel
theorem dL_cases_1 : decode cL_cases 1 = .ok (.iconst 0, 1) := by decide +kernel
theorem dL_cases_2 : decode cL_cases 2 = .ok (.invokevirtual 13, 3) := by decide +kernel
theorem dL_cases_5 : decode cL_cases 5 = .ok (.istore 4, 2) := by decide +kernel
theorem dL_cases_7 : decode cL_cases 7 = .ok (.iload_n 1, 1) := by decide +kernel
theorem dL_cases_8 : decode cL_cases 8 = .ok (.iconst 2, 1) := by decide +kernel
theorem dL_cases_9 : decode cL_cases 9 = .ok (.if_icmp .ge 68, 3) := by decide +kernel
theorem dL_cases_12 : decode cL_cases 12 = .ok (.iconst 1, 1) := by decide +kernel
theorem dL_cases_13 : decode cL_cases 13 = .ok (.iload_n 3, 1) := by decide +kernel
theorem dL_cases_14 : decode cL_cases 14 = .ok (.sipush 20000, 3) := by decide +kernel
theorem dL_cases_17 : decode cL_cases 17 = .ok (.invokestatic 48, 3) := by decide +kernel
theorem dL_cases_20 : decode cL_cases 20 = .ok (.iadd, 1) := by decide +kernel
theorem dL_cases_21 : decode cL_cases 21 = .ok (.istore 5, 2) := by decide +kernel
theorem dL_cases_23 : decode cL_cases 23 = .ok (.aload_n 0, 1) := by decide +kernel
theorem dL_cases_24 : decode cL_cases 24 = .ok (.iconst 2, 1) := by decide +kernel
theorem dL_cases_25 : decode cL_cases 25 = .ok (.invokevirtual 13, 3) := by decide +kernel
theorem dL_cases_28 : decode cL_cases 28 = .ok (.istore 6, 2) := by decide +kernel
theorem dL_cases_30 : decode cL_cases 30 = .ok (.aload_n 0, 1) := by decide +kernel
theorem dL_cases_31 : decode cL_cases 31 = .ok (.iload 5, 2) := by decide +kernel
theorem dL_cases_33 : decode cL_cases 33 = .ok (.invokevirtual 58, 3) := by decide +kernel
theorem dL_cases_36 : decode cL_cases 36 = .ok (.iload 6, 2) := by decide +kernel
theorem dL_cases_38 : decode cL_cases 38 = .ok (.iload 5, 2) := by decide +kernel
theorem dL_cases_40 : decode cL_cases 40 = .ok (.iadd, 1) := by decide +kernel
theorem dL_cases_41 : decode cL_cases 41 = .ok (.ldc 61, 2) := by decide +kernel
theorem dL_cases_43 : decode cL_cases 43 = .ok (.if_icmp .le 8, 3) := by decide +kernel
theorem dL_cases_46 : decode cL_cases 46 = .ok (.bipush (-3), 2) := by decide +kernel
theorem dL_cases_48 : decode cL_cases 48 = .ok (.goto 8, 3) := by decide +kernel
theorem dL_cases_51 : decode cL_cases 51 = .ok (.iload 6, 2) := by decide +kernel
theorem dL_cases_53 : decode cL_cases 53 = .ok (.iload 5, 2) := by decide +kernel
theorem dL_cases_55 : decode cL_cases 55 = .ok (.iadd, 1) := by decide +kernel
theorem dL_cases_56 : decode cL_cases 56 = .ok (.if_icmp .ne 19, 3) := by decide +kernel
theorem dL_cases_59 : decode cL_cases 59 = .ok (.aload_n 0, 1) := by decide +kernel
theorem dL_cases_60 : decode cL_cases 60 = .ok (.sipush 20001, 3) := by decide +kernel
theorem dL_cases_63 : decode cL_cases 63 = .ok (.invokevirtual 58, 3) := by decide +kernel
theorem dL_cases_66 : decode cL_cases 66 = .ok (.bipush (-2), 2) := by decide +kernel
theorem dL_cases_68 : decode cL_cases 68 = .ok (.if_icmp .ne 7, 3) := by decide +kernel
theorem dL_cases_71 : decode cL_cases 71 = .ok (.iconst 1, 1) := by decide +kernel
theorem dL_cases_72 : decode cL_cases 72 = .ok (.goto 4, 3) := by decide +kernel
theorem dL_cases_75 : decode cL_cases 75 = .ok (.iconst 0, 1) := by decide +kernel
theorem dL_cases_76 : decode cL_cases 76 = .ok (.ireturn, 1) := by decide +kernel
theorem dL_cases_77 : decode cL_cases 77 = .ok (.iload 4, 2) := by decide +kernel
theorem dL_cases_79 : decode cL_cases 79 = .ok (.ifCond .eq 8, 3) := by decide +kernel
theorem dL_cases_82 : decode cL_cases 82 = .ok (.iload_n 1, 1) := by decide +kernel
theorem dL_cases_83 : decode cL_cases 83 = .ok (.iconst 2, 1) := by decide +kernel
theorem dL_cases_84 : decode cL_cases 84 = .ok (.if_icmp .ne 30, 3) := by decide +kernel
theorem dL_cases_87 : decode cL_cases 87 = .ok (.aload_n 0, 1) := by decide +kernel
theorem dL_cases_88 : decode cL_cases 88 = .ok (.invokevirtual 62, 3) := by decide +kernel
theorem dL_cases_91 : decode cL_cases 91 = .ok (.iload 4, 2) := by decide +kernel
theorem dL_cases_93 : decode cL_cases 93 = .ok (.bipush 6, 2) := by decide +kernel
theorem dL_cases_95 : decode cL_cases 95 = .ok (.if_icmp .ne 8, 3) := by decide +kernel
theorem dL_cases_98 : decode cL_cases 98 = .ok (.bipush (-3), 2) := by decide +kernel
theorem dL_cases_100 : decode cL_cases 100 = .ok (.goto 5, 3) := by decide +kernel
theorem dL_cases_103 : decode cL_cases 103 = .ok (.iload 4, 2) := by decide +kernel
theorem dL_cases_105 : decode cL_cases 105 = .ok (.if_icmp .ne 7, 3) := by decide +kernel
theorem dL_cases_108 : decode cL_cases 108 = .ok (.iconst 1, 1) := by decide +kernel
theorem dL_cases_109 : decode cL_cases 109 = .ok (.goto 4, 3) := by decide +kernel
theorem dL_cases_112 : decode cL_cases 112 = .ok (.iconst 0, 1) := by decide +kernel
theorem dL_cases_113 : decode cL_cases 113 = .ok (.ireturn, 1) := by decide +kernel
theorem dL_cases_114 : decode cL_cases 114 = .ok (.iload_n 2, 1) := by decide +kernel
theorem dL_cases_115 : decode cL_cases 115 = .ok (.iload 4, 2) := by decide +kernel
theorem dL_cases_117 : decode cL_cases 117 = .ok (.invokestatic 48, 3) := by decide +kernel
theorem dL_cases_120 : decode cL_cases 120 = .ok (.istore 5, 2) := by decide +kernel
theorem dL_cases_122 : decode cL_cases 122 = .ok (.iload_n 3, 1) := by decide +kernel
theorem dL_cases_123 : decode cL_cases 123 = .ok (.bipush 29, 2) := by decide +kernel
theorem dL_cases_125 : decode cL_cases 125 = .ok (.invokestatic 48, 3) := by decide +kernel
theorem dL_cases_128 : decode cL_cases 128 = .ok (.istore 6, 2) := by decide +kernel
theorem dL_cases_130 : decode cL_cases 130 = .ok (.iconst 1, 1) := by decide +kernel
theorem dL_cases_131 : decode cL_cases 131 = .ok (.iload_n 3, 1) := by decide +kernel
theorem dL_cases_132 : decode cL_cases 132 = .ok (.iconst 5, 1) := by decide +kernel
theorem dL_cases_133 : decode cL_cases 133 = .ok (.ishr, 1) := by decide +kernel
theorem dL_cases_134 : decode cL_cases 134 = .ok (.bipush 40, 2) := by decide +kernel
theorem dL_cases_136 : decode cL_cases 136 = .ok (.invokestatic 48, 3) := by decide +kernel
theorem dL_cases_139 : decode cL_cases 139 = .ok (.iadd, 1) := by decide +kernel
theorem dL_cases_140 : decode cL_cases 140 = .ok (.istore 7, 2) := by decide +kernel
theorem dL_cases_142 : decode cL_cases 142 = .ok (.aload_n 0, 1) := by decide +kernel
theorem dL_cases_143 : decode cL_cases 143 = .ok (.iconst 2, 1) := by decide +kernel
theorem dL_cases_144 : decode cL_cases 144 = .ok (.invokevirtual 13, 3) := by decide +kernel
theorem dL_cases_147 : decode cL_cases 147 = .ok (.istore 8, 2) := by decide +kernel
theorem dL_cases_149 : decode cL_cases 149 = .ok (.aload_n 0, 1) := by decide +kernel
theorem dL_cases_150 : decode cL_cases 150 = .ok (.iload 5, 2) := by decide +kernel
theorem dL_cases_152 : decode cL_cases 152 = .ok (.iload 6, 2) := by decide +kernel
theorem dL_cases_154 : decode cL_cases 154 = .ok (.invokevirtual 19, 3) := by decide +kernel
theorem dL_cases_157 : decode cL_cases 157 = .ok (.istore 9, 2) := by decide +kernel
theorem dL_cases_159 : decode cL_cases 159 = .ok (.iload_n 1, 1) := by decide +kernel
theorem dL_cases_160 : decode cL_cases 160 = .ok (.iconst 3, 1) := by decide +kernel
theorem dL_cases_161 : decode cL_cases 161 = .ok (.if_icmp .ne 110, 3) := by decide +kernel
theorem dL_cases_164 : decode cL_cases 164 = .ok (.aload_n 0, 1) := by decide +kernel
theorem dL_cases_165 : decode cL_cases 165 = .ok (.iload 5, 2) := by decide +kernel
theorem dL_cases_167 : decode cL_cases 167 = .ok (.iload 6, 2) := by decide +kernel
theorem dL_cases_169 : decode cL_cases 169 = .ok (.iload 7, 2) := by decide +kernel
theorem dL_cases_171 : decode cL_cases 171 = .ok (.invokevirtual 65, 3) := by decide +kernel
theorem dL_cases_174 : decode cL_cases 174 = .ok (.istore 10, 2) := by decide +kernel
theorem dL_cases_176 : decode cL_cases 176 = .ok (.iload 9, 2) := by decide +kernel
theorem dL_cases_178 : decode cL_cases 178 = .ok (.iload 7, 2) := by decide +kernel
theorem dL_cases_180 : decode cL_cases 180 = .ok (.iadd, 1) := by decide +kernel
theorem dL_cases_181 : decode cL_cases 181 = .ok (.bipush 99, 2) := by decide +kernel
theorem dL_cases_183 : decode cL_cases 183 = .ok (.if_icmp .le 8, 3) := by decide +kernel
theorem dL_cases_186 : decode cL_cases 186 = .ok (.bipush (-3), 2) := by decide +kernel
theorem dL_cases_188 : decode cL_cases 188 = .ok (.goto 26, 3) := by decide +kernel
theorem dL_cases_191 : decode cL_cases 191 = .ok (.iload 7, 2) := by decide +kernel
theorem dL_cases_193 : decode cL_cases 193 = .ok (.iload 6, 2) := by decide +kernel
theorem dL_cases_195 : decode cL_cases 195 = .ok (.invokestatic 26, 3) := by decide +kernel
theorem dL_cases_198 : decode cL_cases 198 = .ok (.imul, 1) := by decide +kernel
theorem dL_cases_199 : decode cL_cases 199 = .ok (.iload 8, 2) := by decide +kernel
theorem dL_cases_201 : decode cL_cases 201 = .ok (.if_icmp .le 8, 3) := by decide +kernel
theorem dL_cases_204 : decode cL_cases 204 = .ok (.bipush (-4), 2) := by decide +kernel
theorem dL_cases_206 : decode cL_cases 206 = .ok (.goto 8, 3) := by decide +kernel
theorem dL_cases_209 : decode cL_cases 209 = .ok (.iload 9, 2) := by decide +kernel
theorem dL_cases_211 : decode cL_cases 211 = .ok (.iload 7, 2) := by decide +kernel
theorem dL_cases_213 : decode cL_cases 213 = .ok (.iadd, 1) := by decide +kernel
theorem dL_cases_214 : decode cL_cases 214 = .ok (.istore 11, 2) := by decide +kernel
theorem dL_cases_216 : decode cL_cases 216 = .ok (.iload 10, 2) := by decide +kernel
theorem dL_cases_218 : decode cL_cases 218 = .ok (.iload 11, 2) := by decide +kernel
theorem dL_cases_220 : decode cL_cases 220 = .ok (.if_icmp .ne 49, 3) := by decide +kernel
theorem dL_cases_223 : decode cL_cases 223 = .ok (.aload_n 0, 1) := by decide +kernel
theorem dL_cases_224 : decode cL_cases 224 = .ok (.iconst 2, 1) := by decide +kernel
theorem dL_cases_225 : decode cL_cases 225 = .ok (.invokevirtual 13, 3) := by decide +kernel
theorem dL_cases_228 : decode cL_cases 228 = .ok (.iload 11, 2) := by decide +kernel
theorem dL_cases_230 : decode cL_cases 230 = .ok (.ifCond .ge 8, 3) := by decide +kernel
theorem dL_cases_233 : decode cL_cases 233 = .ok (.iload 8, 2) := by decide +kernel
theorem dL_cases_235 : decode cL_cases 235 = .ok (.goto 14, 3) := by decide +kernel
theorem dL_cases_238 : decode cL_cases 238 = .ok (.iload 8, 2) := by decide +kernel
theorem dL_cases_240 : decode cL_cases 240 = .ok (.iload 7, 2) := by decide +kernel
theorem dL_cases_242 : decode cL_cases 242 = .ok (.iload 6, 2) := by decide +kernel
theorem dL_cases_244 : decode cL_cases 244 = .ok (.invokestatic 26, 3) := by decide +kernel
theorem dL_cases_247 : decode cL_cases 247 = .ok (.imul, 1) := by decide +kernel
theorem dL_cases_248 : decode cL_cases 248 = .ok (.isub, 1) := by decide +kernel
theorem dL_cases_249 : decode cL_cases 249 = .ok (.if_icmp .ne 20, 3) := by decide +kernel
theorem dL_cases_252 : decode cL_cases 252 = .ok (.aload_n 0, 1) := by decide +kernel
theorem dL_cases_253 : decode cL_cases 253 = .ok (.iload 5, 2) := by decide +kernel
theorem dL_cases_255 : decode cL_cases 255 = .ok (.bipush 29, 2) := by decide +kernel
theorem dL_cases_257 : decode cL_cases 257 = .ok (.iconst 1, 1) := by decide +kernel
theorem dL_cases_258 : decode cL_cases 258 = .ok (.invokevirtual 65, 3) := by decide +kernel
theorem dL_cases_261 : decode cL_cases 261 = .ok (.iconst (-1), 1) := by decide +kernel
theorem dL_cases_262 : decode cL_cases 262 = .ok (.if_icmp .ne 7, 3) := by decide +kernel
theorem dL_cases_265 : decode cL_cases 265 = .ok (.iconst 1, 1) := by decide +kernel
theorem dL_cases_266 : decode cL_cases 266 = .ok (.goto 4, 3) := by decide +kernel
theorem dL_cases_269 : decode cL_cases 269 = .ok (.iconst 0, 1) := by decide +kernel
theorem dL_cases_270 : decode cL_cases 270 = .ok (.ireturn, 1) := by decide +kernel
theorem dL_cases_271 : decode cL_cases 271 = .ok (.iload_n 1, 1) := by decide +kernel
theorem dL_cases_272 : decode cL_cases 272 = .ok (.iconst 4, 1) := by decide +kernel
theorem dL_cases_273 : decode cL_cases 273 = .ok (.if_icmp .ne 100, 3) := by decide +kernel
theorem dL_cases_276 : decode cL_cases 276 = .ok (.iconst 1, 1) := by decide +kernel
theorem dL_cases_277 : decode cL_cases 277 = .ok (.iload_n 3, 1) := by decide +kernel
theorem dL_cases_278 : decode cL_cases 278 = .ok (.iconst 4, 1) := by decide +kernel
theorem dL_cases_279 : decode cL_cases 279 = .ok (.invokestatic 48, 3) := by decide +kernel
theorem dL_cases_282 : decode cL_cases 282 = .ok (.iadd, 1) := by decide +kernel
theorem dL_cases_283 : decode cL_cases 283 = .ok (.istore 10, 2) := by decide +kernel
theorem dL_cases_285 : decode cL_cases 285 = .ok (.aload_n 0, 1) := by decide +kernel
theorem dL_cases_286 : decode cL_cases 286 = .ok (.iload 5, 2) := by decide +kernel
theorem dL_cases_288 : decode cL_cases 288 = .ok (.iload 10, 2) := by decide +kernel
theorem dL_cases_290 : decode cL_cases 290 = .ok (.invokevirtual 68, 3) := by decide +kernel
theorem dL_cases_293 : decode cL_cases 293 = .ok (.istore 11, 2) := by decide +kernel
theorem dL_cases_295 : decode cL_cases 295 = .ok (.iload 11, 2) := by decide +kernel
theorem dL_cases_297 : decode cL_cases 297 = .ok (.bipush 32, 2) := by decide +kernel
theorem dL_cases_299 : decode cL_cases 299 = .ok (.iload 10, 2) := by decide +kernel
theorem dL_cases_301 : decode cL_cases 301 = .ok (.imul, 1) := by decide +kernel
theorem dL_cases_302 : decode cL_cases 302 = .ok (.if_icmp .eq 17, 3) := by decide +kernel
theorem dL_cases_305 : decode cL_cases 305 = .ok (.iload 11, 2) := by decide +kernel
theorem dL_cases_307 : decode cL_cases 307 = .ok (.bipush (-3), 2) := by decide +kernel
theorem dL_cases_309 : decode cL_cases 309 = .ok (.if_icmp .eq 10, 3) := by decide +kernel
theorem dL_cases_312 : decode cL_cases 312 = .ok (.iload 11, 2) := by decide +kernel
theorem dL_cases_314 : decode cL_cases 314 = .ok (.bipush (-4), 2) := by decide +kernel
theorem dL_cases_316 : decode cL_cases 316 = .ok (.if_icmp .ne 55, 3) := by decide +kernel
theorem dL_cases_319 : decode cL_cases 319 = .ok (.iload 11, 2) := by decide +kernel
theorem dL_cases_321 : decode cL_cases 321 = .ok (.ifCond .lt 33, 3) := by decide +kernel
theorem dL_cases_324 : decode cL_cases 324 = .ok (.aload_n 0, 1) := by decide +kernel
theorem dL_cases_325 : decode cL_cases 325 = .ok (.iload 5, 2) := by decide +kernel
theorem dL_cases_327 : decode cL_cases 327 = .ok (.iload 6, 2) := by decide +kernel
theorem dL_cases_329 : decode cL_cases 329 = .ok (.invokevirtual 19, 3) := by decide +kernel
theorem dL_cases_332 : decode cL_cases 332 = .ok (.iload 9, 2) := by decide +kernel
theorem dL_cases_334 : decode cL_cases 334 = .ok (.iload 6, 2) := by decide +kernel
theorem dL_cases_336 : decode cL_cases 336 = .ok (.bipush 26, 2) := by decide +kernel
theorem dL_cases_338 : decode cL_cases 338 = .ok (.if_icmp .ge 8, 3) := by decide +kernel
theorem dL_cases_341 : decode cL_cases 341 = .ok (.iload 10, 2) := by decide +kernel
theorem dL_cases_343 : decode cL_cases 343 = .ok (.goto 7, 3) := by decide +kernel
theorem dL_cases_346 : decode cL_cases 346 = .ok (.iconst 2, 1) := by decide +kernel
theorem dL_cases_347 : decode cL_cases 347 = .ok (.iload 10, 2) := by decide +kernel
theorem dL_cases_349 : decode cL_cases 349 = .ok (.imul, 1) := by decide +kernel
theorem dL_cases_350 : decode cL_cases 350 = .ok (.iadd, 1) := by decide +kernel
theorem dL_cases_351 : decode cL_cases 351 = .ok (.if_icmp .ne 20, 3) := by decide +kernel
theorem dL_cases_354 : decode cL_cases 354 = .ok (.aload_n 0, 1) := by decide +kernel
theorem dL_cases_355 : decode cL_cases 355 = .ok (.iload 5, 2) := by decide +kernel
theorem dL_cases_357 : decode cL_cases 357 = .ok (.bipush 10, 2) := by decide +kernel
theorem dL_cases_359 : decode cL_cases 359 = .ok (.invokevirtual 68, 3) := by decide +kernel
theorem dL_cases_362 : decode cL_cases 362 = .ok (.bipush (-2), 2) := by decide +kernel
theorem dL_cases_364 : decode cL_cases 364 = .ok (.if_icmp .ne 7, 3) := by decide +kernel
theorem dL_cases_367 : decode cL_cases 367 = .ok (.iconst 1, 1) := by decide +kernel
theorem dL_cases_368 : decode cL_cases 368 = .ok (.goto 4, 3) := by decide +kernel
theorem dL_cases_371 : decode cL_cases 371 = .ok (.iconst 0, 1) := by decide +kernel
theorem dL_cases_372 : decode cL_cases 372 = .ok (.ireturn, 1) := by decide +kernel
theorem dL_cases_373 : decode cL_cases 373 = .ok (.iload_n 1, 1) := by decide +kernel
theorem dL_cases_374 : decode cL_cases 374 = .ok (.iconst 5, 1) := by decide +kernel
theorem dL_cases_375 : decode cL_cases 375 = .ok (.if_icmp .ne 73, 3) := by decide +kernel
theorem dL_cases_378 : decode cL_cases 378 = .ok (.aload_n 0, 1) := by decide +kernel
theorem dL_cases_379 : decode cL_cases 379 = .ok (.iload 5, 2) := by decide +kernel
theorem dL_cases_381 : decode cL_cases 381 = .ok (.iload 6, 2) := by decide +kernel
theorem dL_cases_383 : decode cL_cases 383 = .ok (.iload 7, 2) := by decide +kernel
theorem dL_cases_385 : decode cL_cases 385 = .ok (.invokevirtual 71, 3) := by decide +kernel
theorem dL_cases_388 : decode cL_cases 388 = .ok (.iload 9, 2) := by decide +kernel
theorem dL_cases_390 : decode cL_cases 390 = .ok (.iload 7, 2) := by decide +kernel
theorem dL_cases_392 : decode cL_cases 392 = .ok (.if_icmp .ge 8, 3) := by decide +kernel
theorem dL_cases_395 : decode cL_cases 395 = .ok (.bipush (-4), 2) := by decide +kernel
theorem dL_cases_397 : decode cL_cases 397 = .ok (.goto 14, 3) := by decide +kernel
theorem dL_cases_400 : decode cL_cases 400 = .ok (.iload 8, 2) := by decide +kernel
theorem dL_cases_402 : decode cL_cases 402 = .ok (.iload 7, 2) := by decide +kernel
theorem dL_cases_404 : decode cL_cases 404 = .ok (.iload 6, 2) := by decide +kernel
theorem dL_cases_406 : decode cL_cases 406 = .ok (.invokestatic 26, 3) := by decide +kernel
theorem dL_cases_409 : decode cL_cases 409 = .ok (.imul, 1) := by decide +kernel
theorem dL_cases_410 : decode cL_cases 410 = .ok (.iadd, 1) := by decide +kernel
theorem dL_cases_411 : decode cL_cases 411 = .ok (.if_icmp .ne 35, 3) := by decide +kernel
theorem dL_cases_414 : decode cL_cases 414 = .ok (.aload_n 0, 1) := by decide +kernel
theorem dL_cases_415 : decode cL_cases 415 = .ok (.iload 5, 2) := by decide +kernel
theorem dL_cases_417 : decode cL_cases 417 = .ok (.iload 6, 2) := by decide +kernel
theorem dL_cases_419 : decode cL_cases 419 = .ok (.invokevirtual 19, 3) := by decide +kernel
theorem dL_cases_422 : decode cL_cases 422 = .ok (.iload 9, 2) := by decide +kernel
theorem dL_cases_424 : decode cL_cases 424 = .ok (.iload 7, 2) := by decide +kernel
theorem dL_cases_426 : decode cL_cases 426 = .ok (.if_icmp .ge 8, 3) := by decide +kernel
theorem dL_cases_429 : decode cL_cases 429 = .ok (.iload 9, 2) := by decide +kernel
theorem dL_cases_431 : decode cL_cases 431 = .ok (.goto 8, 3) := by decide +kernel
theorem dL_cases_434 : decode cL_cases 434 = .ok (.iload 9, 2) := by decide +kernel
theorem dL_cases_436 : decode cL_cases 436 = .ok (.iload 7, 2) := by decide +kernel
theorem dL_cases_438 : decode cL_cases 438 = .ok (.isub, 1) := by decide +kernel
theorem dL_cases_439 : decode cL_cases 439 = .ok (.if_icmp .ne 7, 3) := by decide +kernel
theorem dL_cases_442 : decode cL_cases 442 = .ok (.iconst 1, 1) := by decide +kernel
theorem dL_cases_443 : decode cL_cases 443 = .ok (.goto 4, 3) := by decide +kernel
theorem dL_cases_446 : decode cL_cases 446 = .ok (.iconst 0, 1) := by decide +kernel
theorem dL_cases_447 : decode cL_cases 447 = .ok (.ireturn, 1) := by decide +kernel
theorem dL_cases_448 : decode cL_cases 448 = .ok (.aload_n 0, 1) := by decide +kernel
theorem dL_cases_449 : decode cL_cases 449 = .ok (.bipush 10, 2) := by decide +kernel
theorem dL_cases_451 : decode cL_cases 451 = .ok (.invokevirtual 13, 3) := by decide +kernel
theorem dL_cases_454 : decode cL_cases 454 = .ok (.istore 10, 2) := by decide +kernel
theorem dL_cases_456 : decode cL_cases 456 = .ok (.aload_n 0, 1) := by decide +kernel
theorem dL_cases_457 : decode cL_cases 457 = .ok (.iconst 5, 1) := by decide +kernel
theorem dL_cases_458 : decode cL_cases 458 = .ok (.invokevirtual 13, 3) := by decide +kernel
theorem dL_cases_461 : decode cL_cases 461 = .ok (.istore 11, 2) := by decide +kernel
theorem dL_cases_463 : decode cL_cases 463 = .ok (.aload_n 0, 1) := by decide +kernel
theorem dL_cases_464 : decode cL_cases 464 = .ok (.invokevirtual 74, 3) := by decide +kernel
theorem dL_cases_467 : decode cL_cases 467 = .ok (.istore 12, 2) := by decide +kernel
theorem dL_cases_469 : decode cL_cases 469 = .ok (.iload 12, 2) := by decide +kernel
theorem dL_cases_471 : decode cL_cases 471 = .ok (.iload 10, 2) := by decide +kernel
theorem dL_cases_473 : decode cL_cases 473 = .ok (.ifCond .ne 8, 3) := by decide +kernel
theorem dL_cases_476 : decode cL_cases 476 = .ok (.bipush (-5), 2) := by decide +kernel
theorem dL_cases_478 : decode cL_cases 478 = .ok (.goto 11, 3) := by decide +kernel
theorem dL_cases_481 : decode cL_cases 481 = .ok (.iload 11, 2) := by decide +kernel
theorem dL_cases_483 : decode cL_cases 483 = .ok (.iload 11, 2) := by decide +kernel
theorem dL_cases_485 : decode cL_cases 485 = .ok (.bipush 50, 2) := by decide +kernel
theorem dL_cases_487 : decode cL_cases 487 = .ok (.idiv, 1) := by decide +kernel
theorem dL_cases_488 : decode cL_cases 488 = .ok (.isub, 1) := by decide +kernel
theorem dL_cases_489 : decode cL_cases 489 = .ok (.if_icmp .ne 16, 3) := by decide +kernel
theorem dL_cases_492 : decode cL_cases 492 = .ok (.aload_n 0, 1) := by decide +kernel
theorem dL_cases_493 : decode cL_cases 493 = .ok (.bipush 10, 2) := by decide +kernel
theorem dL_cases_495 : decode cL_cases 495 = .ok (.invokevirtual 13, 3) := by decide +kernel
theorem dL_cases_498 : decode cL_cases 498 = .ok (.ifCond .ne 7, 3) := by decide +kernel
theorem dL_cases_501 : decode cL_cases 501 = .ok (.iconst 1, 1) := by decide +kernel
theorem dL_cases_502 : decode cL_cases 502 = .ok (.goto 4, 3) := by decide +kernel
theorem dL_cases_505 : decode cL_cases 505 = .ok (.iconst 0, 1) := by decide +kernel
theorem dL_cases_506 : decode cL_cases 506 = .ok (.ireturn, 1) := by decide +kernel
def rm_L_cases : Room := { frames := 6, cells := 8, slots := 452, locals := 133 }
set_option maxRecDepth 100000 in
set_option maxHeartbeats 4000000 in
theorem ok_L_cases_76 {E : Ev} {X : Xt} {l0 : Launch} {K : Int32 → Hp → Prop} (hC : Cx E X l0 RL cL_cases 13 rm_L_cases) (hQ : CQ E X "cases" (some .boolean) rm_L_cases (KI K)) (s0 : Int32) (h : Hp) (hV : V_L_cases_76 K s0 h) : WW E X h 8 452 76 [none, none, none, none, none, none, none, none, none, none, none, none, none] [.int s0] := by
  unfold V_L_cases_76 at hV
  exact r_zret hC hQ dL_cases_76 (Nat.le_of_ble_eq_true rfl) (Nat.le_of_ble_eq_true rfl) hV.1 ⟨_, rfl, hV.2⟩
set_option maxRecDepth 100000 in
set_option maxHeartbeats 4000000 in
theorem ok_L_cases_75 {E : Ev} {X : Xt} {l0 : Launch} {K : Int32 → Hp → Prop} (hC : Cx E X l0 RL cL_cases 13 rm_L_cases) (hQ : CQ E X "cases" (some .boolean) rm_L_cases (KI K)) (h : Hp) (hV : V_L_cases_75 K  h) : WW E X h 8 452 75 [none, none, none, none, none, none, none, none, none, none, none, none, none] [] := by
  unfold V_L_cases_75 at hV
  refine r_iconst (v := 0) hC dL_cases_75 (by decide) ?_
  exact ok_L_cases_76 hC hQ 0 h hV
set_option maxRecDepth 100000 in
set_option maxHeartbeats 4000000 in
theorem ok_L_cases_56 {E : Ev} {X : Xt} {l0 : Launch} {K : Int32 → Hp → Prop} (hC : Cx E X l0 RL cL_cases 13 rm_L_cases) (hQ : CQ E X "cases" (some .boolean) rm_L_cases (KI K)) (a0 : Nat) (s0 : Int32) (s1 : Int32) (h : Hp) (hV : V_L_cases_56 K a0 s0 s1 h) : WW E X h 4 226 56 [some (rv a0), none, none, none, none, none, none, none, none, none, none, none, none] [.int s1, .int s0] := by
  unfold V_L_cases_56 at hV
  refine r_icmp_ne (tgt := 75) hC dL_cases_56 (by decide) (fun k9 => ?_) (fun k9 => ?_)
  · replace hV := hV.1 k9
    refine r_wide (k1 := 8) (n1 := 452) (Nat.le_of_ble_eq_true rfl) (Nat.le_of_ble_eq_true rfl) ?_
    refine r_sub (lo1 := [none, none, none, none, none, none, none, none, none, none, none, none, none]) ⟨Or.inl rfl, ⟨Or.inl rfl, ⟨Or.inl rfl, ⟨Or.inl rfl, ⟨Or.inl rfl, ⟨Or.inl rfl, ⟨Or.inl rfl, ⟨Or.inl rfl, ⟨Or.inl rfl, ⟨Or.inl rfl, ⟨Or.inl rfl, ⟨Or.inl rfl, ⟨Or.inl rfl, trivial⟩⟩⟩⟩⟩⟩⟩⟩⟩⟩⟩⟩⟩ ?_
    exact ok_L_cases_75 hC hQ  h hV
  · replace hV := hV.2 k9
    refine r_aload_n hC dL_cases_59 rfl ?_
    refine r_sipush (v := 20001) hC dL_cases_60 (by decide) ?_
    obtain ⟨k9, hV⟩ := hV
    refine r_callV (ci := 6) (As := [.int 20001]) hC dL_cases_63 rfl cf_X6_buy ml_7_58 im_X6_buy sl_X6_buy lq_6 rfl rfl k9 rfl ⟨(Nat.le_of_ble_eq_true rfl), (Nat.le_of_ble_eq_true rfl), (Nat.le_of_ble_eq_true rfl), (Nat.le_of_ble_eq_true rfl)⟩ cs0 (Nat.le_of_ble_eq_true rfl) (con_X6_buy a0 20001 h _ hV) rfl (kI (k := 8) (n := 452) (fun r1 h1 hV => ?_))
    refine r_bipush (v := (-2)) hC dL_cases_66 (by decide) ?_
    refine r_icmp_ne (tgt := 75) hC dL_cases_68 (by decide) (fun k9 => ?_) (fun k9 => ?_)
    · replace hV := hV.1 k9
      refine r_sub (lo1 := [none, none, none, none, none, none, none, none, none, none, none, none, none]) ⟨Or.inl rfl, ⟨Or.inl rfl, ⟨Or.inl rfl, ⟨Or.inl rfl, ⟨Or.inl rfl, ⟨Or.inl rfl, ⟨Or.inl rfl, ⟨Or.inl rfl, ⟨Or.inl rfl, ⟨Or.inl rfl, ⟨Or.inl rfl, ⟨Or.inl rfl, ⟨Or.inl rfl, trivial⟩⟩⟩⟩⟩⟩⟩⟩⟩⟩⟩⟩⟩ ?_
      exact ok_L_cases_75 hC hQ  h1 hV
    · replace hV := hV.2 k9
      refine r_iconst (v := 1) hC dL_cases_71 (by decide) ?_
      refine r_goto (tgt := 76) hC dL_cases_72 (by decide) ?_
      refine r_sub (lo1 := [none, none, none, none, none, none, none, none, none, none, none, none, none]) ⟨Or.inl rfl, ⟨Or.inl rfl, ⟨Or.inl rfl, ⟨Or.inl rfl, ⟨Or.inl rfl, ⟨Or.inl rfl, ⟨Or.inl rfl, ⟨Or.inl rfl, ⟨Or.inl rfl, ⟨Or.inl rfl, ⟨Or.inl rfl, ⟨Or.inl rfl, ⟨Or.inl rfl, trivial⟩⟩⟩⟩⟩⟩⟩⟩⟩⟩⟩⟩⟩ ?_
      exact ok_L_cases_76 hC hQ 1 h1 hV
set_option maxRecDepth 100000 in
set_option maxHeartbeats 4000000 in
theorem ok_L_cases_113 {E : Ev} {X : Xt} {l0 : Launch} {K : Int32 → Hp → Prop} (hC : Cx E X l0 RL cL_cases 13 rm_L_cases) (hQ : CQ E X "cases" (some .boolean) rm_L_cases (KI K)) (s0 : Int32) (h : Hp) (hV : V_L_cases_113 K s0 h) : WW E X h 4 226 113 [none, none, none, none, none, none, none, none, none, none, none, none, none] [.int s0] := by
  unfold V_L_cases_113 at hV
  exact r_zret hC hQ dL_cases_113 (Nat.le_of_ble_eq_true rfl) (Nat.le_of_ble_eq_true rfl) hV.1 ⟨_, rfl, hV.2⟩
set_option maxRecDepth 100000 in
set_option maxHeartbeats 4000000 in
theorem ok_L_cases_105 {E : Ev} {X : Xt} {l0 : Launch} {K : Int32 → Hp → Prop} (hC : Cx E X l0 RL cL_cases 13 rm_L_cases) (hQ : CQ E X "cases" (some .boolean) rm_L_cases (KI K)) (s0 : Int32) (s1 : Int32) (h : Hp) (hV : V_L_cases_105 K s0 s1 h) : WW E X h 4 226 105 [none, none, none, none, none, none, none, none, none, none, none, none, none] [.int s1, .int s0] := by
  unfold V_L_cases_105 at hV
  refine r_icmp_ne (tgt := 112) hC dL_cases_105 (by decide) (fun k9 => ?_) (fun k9 => ?_)
  · replace hV := hV.1 k9
    refine r_iconst (v := 0) hC dL_cases_112 (by decide) ?_
    exact ok_L_cases_113 hC hQ 0 h hV
  · replace hV := hV.2 k9
    refine r_iconst (v := 1) hC dL_cases_108 (by decide) ?_
    refine r_goto (tgt := 113) hC dL_cases_109 (by decide) ?_
    exact ok_L_cases_113 hC hQ 1 h hV
set_option maxRecDepth 100000 in
set_option maxHeartbeats 4000000 in
theorem ok_L_cases_87 {E : Ev} {X : Xt} {l0 : Launch} {K : Int32 → Hp → Prop} (hC : Cx E X l0 RL cL_cases 13 rm_L_cases) (hQ : CQ E X "cases" (some .boolean) rm_L_cases (KI K)) (a0 : Nat) (a4 : Int32) (h : Hp) (hV : V_L_cases_87 K a0 a4 h) : WW E X h 0 0 87 [some (rv a0), none, none, none, some (.int a4), none, none, none, none, none, none, none, none] [] := by
  unfold V_L_cases_87 at hV
  refine r_aload_n hC dL_cases_87 rfl ?_
  obtain ⟨k9, hV⟩ := hV
  refine r_callV (ci := 6) (As := []) hC dL_cases_88 rfl cf_X6_addCase ml_7_62 im_X6_addCase sl_X6_addCase lq_6 rfl rfl k9 rfl ⟨(Nat.le_of_ble_eq_true rfl), (Nat.le_of_ble_eq_true rfl), (Nat.le_of_ble_eq_true rfl), (Nat.le_of_ble_eq_true rfl)⟩ cs0 (Nat.le_of_ble_eq_true rfl) (con_X6_addCase a0 h _ hV) rfl (kI (k := 4) (n := 226) (fun r1 h1 hV => ?_))
  refine r_iload hC dL_cases_91 rfl ?_
  refine r_bipush (v := 6) hC dL_cases_93 (by decide) ?_
  refine r_icmp_ne (tgt := 103) hC dL_cases_95 (by decide) (fun k9 => ?_) (fun k9 => ?_)
  · replace hV := hV.1 k9
    refine r_iload hC dL_cases_103 rfl ?_
    refine r_sub (lo1 := [none, none, none, none, none, none, none, none, none, none, none, none, none]) ⟨Or.inl rfl, ⟨Or.inl rfl, ⟨Or.inl rfl, ⟨Or.inl rfl, ⟨Or.inl rfl, ⟨Or.inl rfl, ⟨Or.inl rfl, ⟨Or.inl rfl, ⟨Or.inl rfl, ⟨Or.inl rfl, ⟨Or.inl rfl, ⟨Or.inl rfl, ⟨Or.inl rfl, trivial⟩⟩⟩⟩⟩⟩⟩⟩⟩⟩⟩⟩⟩ ?_
    exact ok_L_cases_105 hC hQ r1 a4 h1 hV
  · replace hV := hV.2 k9
    refine r_bipush (v := (-3)) hC dL_cases_98 (by decide) ?_
    refine r_goto (tgt := 105) hC dL_cases_100 (by decide) ?_
    refine r_sub (lo1 := [none, none, none, none, none, none, none, none, none, none, none, none, none]) ⟨Or.inl rfl, ⟨Or.inl rfl, ⟨Or.inl rfl, ⟨Or.inl rfl, ⟨Or.inl rfl, ⟨Or.inl rfl, ⟨Or.inl rfl, ⟨Or.inl rfl, ⟨Or.inl rfl, ⟨Or.inl rfl, ⟨Or.inl rfl, ⟨Or.inl rfl, ⟨Or.inl rfl, trivial⟩⟩⟩⟩⟩⟩⟩⟩⟩⟩⟩⟩⟩ ?_
    exact ok_L_cases_105 hC hQ r1 (-3) h1 hV
set_option maxRecDepth 100000 in
set_option maxHeartbeats 4000000 in
theorem ok_L_cases_270 {E : Ev} {X : Xt} {l0 : Launch} {K : Int32 → Hp → Prop} (hC : Cx E X l0 RL cL_cases 13 rm_L_cases) (hQ : CQ E X "cases" (some .boolean) rm_L_cases (KI K)) (s0 : Int32) (h : Hp) (hV : V_L_cases_270 K s0 h) : WW E X h 8 452 270 [none, none, none, none, none, none, none, none, none, none, none, none, none] [.int s0] := by
  unfold V_L_cases_270 at hV
  exact r_zret hC hQ dL_cases_270 (Nat.le_of_ble_eq_true rfl) (Nat.le_of_ble_eq_true rfl) hV.1 ⟨_, rfl, hV.2⟩
set_option maxRecDepth 100000 in
set_option maxHeartbeats 4000000 in
theorem ok_L_cases_269 {E : Ev} {X : Xt} {l0 : Launch} {K : Int32 → Hp → Prop} (hC : Cx E X l0 RL cL_cases 13 rm_L_cases) (hQ : CQ E X "cases" (some .boolean) rm_L_cases (KI K)) (h : Hp) (hV : V_L_cases_269 K  h) : WW E X h 8 452 269 [none, none, none, none, none, none, none, none, none, none, none, none, none] [] := by
  unfold V_L_cases_269 at hV
  refine r_iconst (v := 0) hC dL_cases_269 (by decide) ?_
  exact ok_L_cases_270 hC hQ 0 h hV
set_option maxRecDepth 100000 in
set_option maxHeartbeats 4000000 in
theorem ok_L_cases_249 {E : Ev} {X : Xt} {l0 : Launch} {K : Int32 → Hp → Prop} (hC : Cx E X l0 RL cL_cases 13 rm_L_cases) (hQ : CQ E X "cases" (some .boolean) rm_L_cases (KI K)) (a0 : Nat) (a5 : Int32) (s0 : Int32) (s1 : Int32) (h : Hp) (hV : V_L_cases_249 K a0 a5 s0 s1 h) : WW E X h 4 226 249 [some (rv a0), none, none, none, none, some (.int a5), none, none, none, none, none, none, none] [.int s1, .int s0] := by
  unfold V_L_cases_249 at hV
  refine r_icmp_ne (tgt := 269) hC dL_cases_249 (by decide) (fun k9 => ?_) (fun k9 => ?_)
  · replace hV := hV.1 k9
    refine r_wide (k1 := 8) (n1 := 452) (Nat.le_of_ble_eq_true rfl) (Nat.le_of_ble_eq_true rfl) ?_
    refine r_sub (lo1 := [none, none, none, none, none, none, none, none, none, none, none, none, none]) ⟨Or.inl rfl, ⟨Or.inl rfl, ⟨Or.inl rfl, ⟨Or.inl rfl, ⟨Or.inl rfl, ⟨Or.inl rfl, ⟨Or.inl rfl, ⟨Or.inl rfl, ⟨Or.inl rfl, ⟨Or.inl rfl, ⟨Or.inl rfl, ⟨Or.inl rfl, ⟨Or.inl rfl, trivial⟩⟩⟩⟩⟩⟩⟩⟩⟩⟩⟩⟩⟩ ?_
    exact ok_L_cases_269 hC hQ  h hV
  · replace hV := hV.2 k9
    refine r_aload_n hC dL_cases_252 rfl ?_
    refine r_iload hC dL_cases_253 rfl ?_
    refine r_bipush (v := 29) hC dL_cases_255 (by decide) ?_
    refine r_iconst (v := 1) hC dL_cases_257 (by decide) ?_
    obtain ⟨k9, hV⟩ := hV
    refine r_callV (ci := 6) (As := [.int a5, .int 29, .int 1]) hC dL_cases_258 rfl cf_X6_cast ml_7_65 im_X6_cast sl_X6_cast lq_6 rfl rfl k9 rfl ⟨(Nat.le_of_ble_eq_true rfl), (Nat.le_of_ble_eq_true rfl), (Nat.le_of_ble_eq_true rfl), (Nat.le_of_ble_eq_true rfl)⟩ cs0 (Nat.le_of_ble_eq_true rfl) (con_X6_cast a0 a5 29 1 h _ hV) rfl (kI (k := 8) (n := 452) (fun r1 h1 hV => ?_))
    refine r_iconst (v := (-1)) hC dL_cases_261 (by decide) ?_
    refine r_icmp_ne (tgt := 269) hC dL_cases_262 (by decide) (fun k9 => ?_) (fun k9 => ?_)
    · replace hV := hV.1 k9
      refine r_sub (lo1 := [none, none, none, none, none, none, none, none, none, none, none, none, none]) ⟨Or.inl rfl, ⟨Or.inl rfl, ⟨Or.inl rfl, ⟨Or.inl rfl, ⟨Or.inl rfl, ⟨Or.inl rfl, ⟨Or.inl rfl, ⟨Or.inl rfl, ⟨Or.inl rfl, ⟨Or.inl rfl, ⟨Or.inl rfl, ⟨Or.inl rfl, ⟨Or.inl rfl, trivial⟩⟩⟩⟩⟩⟩⟩⟩⟩⟩⟩⟩⟩ ?_
      exact ok_L_cases_269 hC hQ  h1 hV
    · replace hV := hV.2 k9
      refine r_iconst (v := 1) hC dL_cases_265 (by decide) ?_
      refine r_goto (tgt := 270) hC dL_cases_266 (by decide) ?_
      refine r_sub (lo1 := [none, none, none, none, none, none, none, none, none, none, none, none, none]) ⟨Or.inl rfl, ⟨Or.inl rfl, ⟨Or.inl rfl, ⟨Or.inl rfl, ⟨Or.inl rfl, ⟨Or.inl rfl, ⟨Or.inl rfl, ⟨Or.inl rfl, ⟨Or.inl rfl, ⟨Or.inl rfl, ⟨Or.inl rfl, ⟨Or.inl rfl, ⟨Or.inl rfl, trivial⟩⟩⟩⟩⟩⟩⟩⟩⟩⟩⟩⟩⟩ ?_
      exact ok_L_cases_270 hC hQ 1 h1 hV
set_option maxRecDepth 100000 in
set_option maxHeartbeats 4000000 in
theorem ok_L_cases_214 {E : Ev} {X : Xt} {l0 : Launch} {K : Int32 → Hp → Prop} (hC : Cx E X l0 RL cL_cases 13 rm_L_cases) (hQ : CQ E X "cases" (some .boolean) rm_L_cases (KI K)) (a0 : Nat) (a5 : Int32) (a6 : Int32) (a7 : Int32) (a8 : Int32) (a10 : Int32) (s0 : Int32) (h : Hp) (hV : V_L_cases_214 K a0 a5 a6 a7 a8 a10 s0 h) : WW E X h 4 226 214 [some (rv a0), none, none, none, none, some (.int a5), some (.int a6), some (.int a7), some (.int a8), none, some (.int a10), none, none] [.int s0] := by
  unfold V_L_cases_214 at hV
  refine r_istore (lo1 := [some (rv a0), none, none, none, none, some (.int a5), some (.int a6), some (.int a7), some (.int a8), none, some (.int a10), some (.int s0), none]) hC dL_cases_214 (Nat.le_of_ble_eq_true rfl) (pvI rfl) rfl ?_
  refine r_iload hC dL_cases_216 rfl ?_
  refine r_iload hC dL_cases_218 rfl ?_
  refine r_icmp_ne (tgt := 269) hC dL_cases_220 (by decide) (fun k9 => ?_) (fun k9 => ?_)
  · replace hV := hV.1 k9
    refine r_wide (k1 := 8) (n1 := 452) (Nat.le_of_ble_eq_true rfl) (Nat.le_of_ble_eq_true rfl) ?_
    refine r_sub (lo1 := [none, none, none, none, none, none, none, none, none, none, none, none, none]) ⟨Or.inl rfl, ⟨Or.inl rfl, ⟨Or.inl rfl, ⟨Or.inl rfl, ⟨Or.inl rfl, ⟨Or.inl rfl, ⟨Or.inl rfl, ⟨Or.inl rfl, ⟨Or.inl rfl, ⟨Or.inl rfl, ⟨Or.inl rfl, ⟨Or.inl rfl, ⟨Or.inl rfl, trivial⟩⟩⟩⟩⟩⟩⟩⟩⟩⟩⟩⟩⟩ ?_
    exact ok_L_cases_269 hC hQ  h hV
  · replace hV := hV.2 k9
    refine r_aload_n hC dL_cases_223 rfl ?_
    refine r_iconst (v := 2) hC dL_cases_224 (by decide) ?_
    obtain ⟨k9, hV⟩ := hV
    refine r_callV (ci := 6) (As := [.int 2]) hC dL_cases_225 rfl cf_X6_count ml_7_13 im_X6_count sl_X6_count lq_6 rfl rfl k9 rfl ⟨(Nat.le_of_ble_eq_true rfl), (Nat.le_of_ble_eq_true rfl), (Nat.le_of_ble_eq_true rfl), (Nat.le_of_ble_eq_true rfl)⟩ cs0 (Nat.le_of_ble_eq_true rfl) (con_X6_count a0 2 h _ hV) rfl (kI (k := 4) (n := 226) (fun r1 h1 hV => ?_))
    refine r_iload hC dL_cases_228 rfl ?_
    refine r_if_ge (tgt := 238) hC dL_cases_230 (by decide) (fun k9 => ?_) (fun k9 => ?_)
    · replace hV := hV.1 k9
      refine r_iload hC dL_cases_238 rfl ?_
      refine r_iload hC dL_cases_240 rfl ?_
      refine r_iload hC dL_cases_242 rfl ?_
      refine r_callS (As := [.int a6]) hC dL_cases_244 rfl cf_L_width ml_7_26 st_L_width rfl ⟨(Nat.le_of_ble_eq_true rfl), (Nat.le_of_ble_eq_true rfl), (Nat.le_of_ble_eq_true rfl), (Nat.le_of_ble_eq_true rfl)⟩ (csI (csI (csI cs0))) (Nat.le_of_ble_eq_true rfl) (con_L_width a6 h1 _ hV) rfl (kI (k := 4) (n := 226) (fun r2 h2 hV => ?_))
      refine r_imul hC dL_cases_247 ?_
      refine r_isub hC dL_cases_248 ?_
      refine r_sub (lo1 := [some (rv a0), none, none, none, none, some (.int a5), none, none, none, none, none, none, none]) ⟨Or.inr rfl, ⟨Or.inl rfl, ⟨Or.inl rfl, ⟨Or.inl rfl, ⟨Or.inl rfl, ⟨Or.inr rfl, ⟨Or.inl rfl, ⟨Or.inl rfl, ⟨Or.inl rfl, ⟨Or.inl rfl, ⟨Or.inl rfl, ⟨Or.inl rfl, ⟨Or.inl rfl, trivial⟩⟩⟩⟩⟩⟩⟩⟩⟩⟩⟩⟩⟩ ?_
      exact ok_L_cases_249 hC hQ a0 a5 r1 (a8 - (a7 * r2)) h2 hV
    · replace hV := hV.2 k9
      refine r_iload hC dL_cases_233 rfl ?_
      refine r_goto (tgt := 249) hC dL_cases_235 (by decide) ?_
      refine r_sub (lo1 := [some (rv a0), none, none, none, none, some (.int a5), none, none, none, none, none, none, none]) ⟨Or.inr rfl, ⟨Or.inl rfl, ⟨Or.inl rfl, ⟨Or.inl rfl, ⟨Or.inl rfl, ⟨Or.inr rfl, ⟨Or.inl rfl, ⟨Or.inl rfl, ⟨Or.inl rfl, ⟨Or.inl rfl, ⟨Or.inl rfl, ⟨Or.inl rfl, ⟨Or.inl rfl, trivial⟩⟩⟩⟩⟩⟩⟩⟩⟩⟩⟩⟩⟩ ?_
      exact ok_L_cases_249 hC hQ a0 a5 r1 a8 h1 hV
set_option maxRecDepth 100000 in
set_option maxHeartbeats 4000000 in
theorem ok_L_cases_372 {E : Ev} {X : Xt} {l0 : Launch} {K : Int32 → Hp → Prop} (hC : Cx E X l0 RL cL_cases 13 rm_L_cases) (hQ : CQ E X "cases" (some .boolean) rm_L_cases (KI K)) (s0 : Int32) (h : Hp) (hV : V_L_cases_372 K s0 h) : WW E X h 8 452 372 [none, none, none, none, none, none, none, none, none, none, none, none, none] [.int s0] := by
  unfold V_L_cases_372 at hV
  exact r_zret hC hQ dL_cases_372 (Nat.le_of_ble_eq_true rfl) (Nat.le_of_ble_eq_true rfl) hV.1 ⟨_, rfl, hV.2⟩
set_option maxRecDepth 100000 in
set_option maxHeartbeats 4000000 in
theorem ok_L_cases_371 {E : Ev} {X : Xt} {l0 : Launch} {K : Int32 → Hp → Prop} (hC : Cx E X l0 RL cL_cases 13 rm_L_cases) (hQ : CQ E X "cases" (some .boolean) rm_L_cases (KI K)) (h : Hp) (hV : V_L_cases_371 K  h) : WW E X h 8 452 371 [none, none, none, none, none, none, none, none, none, none, none, none, none] [] := by
  unfold V_L_cases_371 at hV
  refine r_iconst (v := 0) hC dL_cases_371 (by decide) ?_
  exact ok_L_cases_372 hC hQ 0 h hV
set_option maxRecDepth 100000 in
set_option maxHeartbeats 4000000 in
theorem ok_L_cases_354 {E : Ev} {X : Xt} {l0 : Launch} {K : Int32 → Hp → Prop} (hC : Cx E X l0 RL cL_cases 13 rm_L_cases) (hQ : CQ E X "cases" (some .boolean) rm_L_cases (KI K)) (a0 : Nat) (a5 : Int32) (h : Hp) (hV : V_L_cases_354 K a0 a5 h) : WW E X h 4 226 354 [some (rv a0), none, none, none, none, some (.int a5), none, none, none, none, none, none, none] [] := by
  unfold V_L_cases_354 at hV
  refine r_aload_n hC dL_cases_354 rfl ?_
  refine r_iload hC dL_cases_355 rfl ?_
  refine r_bipush (v := 10) hC dL_cases_357 (by decide) ?_
  obtain ⟨k9, hV⟩ := hV
  refine r_callV (ci := 6) (As := [.int a5, .int 10]) hC dL_cases_359 rfl cf_X6_castFount ml_7_68 im_X6_castFount sl_X6_castFount lq_6 rfl rfl k9 rfl ⟨(Nat.le_of_ble_eq_true rfl), (Nat.le_of_ble_eq_true rfl), (Nat.le_of_ble_eq_true rfl), (Nat.le_of_ble_eq_true rfl)⟩ cs0 (Nat.le_of_ble_eq_true rfl) (con_X6_castFount a0 a5 10 h _ hV) rfl (kI (k := 8) (n := 452) (fun r1 h1 hV => ?_))
  refine r_bipush (v := (-2)) hC dL_cases_362 (by decide) ?_
  refine r_icmp_ne (tgt := 371) hC dL_cases_364 (by decide) (fun k9 => ?_) (fun k9 => ?_)
  · replace hV := hV.1 k9
    refine r_sub (lo1 := [none, none, none, none, none, none, none, none, none, none, none, none, none]) ⟨Or.inl rfl, ⟨Or.inl rfl, ⟨Or.inl rfl, ⟨Or.inl rfl, ⟨Or.inl rfl, ⟨Or.inl rfl, ⟨Or.inl rfl, ⟨Or.inl rfl, ⟨Or.inl rfl, ⟨Or.inl rfl, ⟨Or.inl rfl, ⟨Or.inl rfl, ⟨Or.inl rfl, trivial⟩⟩⟩⟩⟩⟩⟩⟩⟩⟩⟩⟩⟩ ?_
    exact ok_L_cases_371 hC hQ  h1 hV
  · replace hV := hV.2 k9
    refine r_iconst (v := 1) hC dL_cases_367 (by decide) ?_
    refine r_goto (tgt := 372) hC dL_cases_368 (by decide) ?_
    refine r_sub (lo1 := [none, none, none, none, none, none, none, none, none, none, none, none, none]) ⟨Or.inl rfl, ⟨Or.inl rfl, ⟨Or.inl rfl, ⟨Or.inl rfl, ⟨Or.inl rfl, ⟨Or.inl rfl, ⟨Or.inl rfl, ⟨Or.inl rfl, ⟨Or.inl rfl, ⟨Or.inl rfl, ⟨Or.inl rfl, ⟨Or.inl rfl, ⟨Or.inl rfl, trivial⟩⟩⟩⟩⟩⟩⟩⟩⟩⟩⟩⟩⟩ ?_
    exact ok_L_cases_372 hC hQ 1 h1 hV
set_option maxRecDepth 100000 in
set_option maxHeartbeats 4000000 in
theorem ok_L_cases_350 {E : Ev} {X : Xt} {l0 : Launch} {K : Int32 → Hp → Prop} (hC : Cx E X l0 RL cL_cases 13 rm_L_cases) (hQ : CQ E X "cases" (some .boolean) rm_L_cases (KI K)) (a0 : Nat) (a5 : Int32) (s0 : Int32) (s1 : Int32) (s2 : Int32) (h : Hp) (hV : V_L_cases_350 K a0 a5 s0 s1 s2 h) : WW E X h 4 226 350 [some (rv a0), none, none, none, none, some (.int a5), none, none, none, none, none, none, none] [.int s2, .int s1, .int s0] := by
  unfold V_L_cases_350 at hV
  refine r_iadd hC dL_cases_350 ?_
  refine r_icmp_ne (tgt := 371) hC dL_cases_351 (by decide) (fun k9 => ?_) (fun k9 => ?_)
  · replace hV := hV.1 k9
    refine r_wide (k1 := 8) (n1 := 452) (Nat.le_of_ble_eq_true rfl) (Nat.le_of_ble_eq_true rfl) ?_
    refine r_sub (lo1 := [none, none, none, none, none, none, none, none, none, none, none, none, none]) ⟨Or.inl rfl, ⟨Or.inl rfl, ⟨Or.inl rfl, ⟨Or.inl rfl, ⟨Or.inl rfl, ⟨Or.inl rfl, ⟨Or.inl rfl, ⟨Or.inl rfl, ⟨Or.inl rfl, ⟨Or.inl rfl, ⟨Or.inl rfl, ⟨Or.inl rfl, ⟨Or.inl rfl, trivial⟩⟩⟩⟩⟩⟩⟩⟩⟩⟩⟩⟩⟩ ?_
    exact ok_L_cases_371 hC hQ  h hV
  · replace hV := hV.2 k9
    exact ok_L_cases_354 hC hQ a0 a5 h hV
set_option maxRecDepth 100000 in
set_option maxHeartbeats 4000000 in
theorem ok_L_cases_319 {E : Ev} {X : Xt} {l0 : Launch} {K : Int32 → Hp → Prop} (hC : Cx E X l0 RL cL_cases 13 rm_L_cases) (hQ : CQ E X "cases" (some .boolean) rm_L_cases (KI K)) (a0 : Nat) (a5 : Int32) (a6 : Int32) (a9 : Int32) (a10 : Int32) (a11 : Int32) (h : Hp) (hV : V_L_cases_319 K a0 a5 a6 a9 a10 a11 h) : WW E X h 4 226 319 [some (rv a0), none, none, none, none, some (.int a5), some (.int a6), none, none, some (.int a9), some (.int a10), some (.int a11), none] [] := by
  unfold V_L_cases_319 at hV
  refine r_iload hC dL_cases_319 rfl ?_
  refine r_if_lt (tgt := 354) hC dL_cases_321 (by decide) (fun k9 => ?_) (fun k9 => ?_)
  · replace hV := hV.1 k9
    refine r_sub (lo1 := [some (rv a0), none, none, none, none, some (.int a5), none, none, none, none, none, none, none]) ⟨Or.inr rfl, ⟨Or.inl rfl, ⟨Or.inl rfl, ⟨Or.inl rfl, ⟨Or.inl rfl, ⟨Or.inr rfl, ⟨Or.inl rfl, ⟨Or.inl rfl, ⟨Or.inl rfl, ⟨Or.inl rfl, ⟨Or.inl rfl, ⟨Or.inl rfl, ⟨Or.inl rfl, trivial⟩⟩⟩⟩⟩⟩⟩⟩⟩⟩⟩⟩⟩ ?_
    exact ok_L_cases_354 hC hQ a0 a5 h hV
  · replace hV := hV.2 k9
    refine r_aload_n hC dL_cases_324 rfl ?_
    refine r_iload hC dL_cases_325 rfl ?_
    refine r_iload hC dL_cases_327 rfl ?_
    obtain ⟨k9, hV⟩ := hV
    refine r_callV (ci := 6) (As := [.int a5, .int a6]) hC dL_cases_329 rfl cf_X6_pieces ml_7_19 im_X6_pieces sl_X6_pieces lq_6 rfl rfl k9 rfl ⟨(Nat.le_of_ble_eq_true rfl), (Nat.le_of_ble_eq_true rfl), (Nat.le_of_ble_eq_true rfl), (Nat.le_of_ble_eq_true rfl)⟩ cs0 (Nat.le_of_ble_eq_true rfl) (con_X6_pieces a0 a5 a6 h _ hV) rfl (kI (k := 4) (n := 226) (fun r1 h1 hV => ?_))
    refine r_iload hC dL_cases_332 rfl ?_
    refine r_iload hC dL_cases_334 rfl ?_
    refine r_bipush (v := 26) hC dL_cases_336 (by decide) ?_
    refine r_icmp_ge (tgt := 346) hC dL_cases_338 (by decide) (fun k9 => ?_) (fun k9 => ?_)
    · replace hV := hV.1 k9
      refine r_iconst (v := 2) hC dL_cases_346 (by decide) ?_
      refine r_iload hC dL_cases_347 rfl ?_
      refine r_imul hC dL_cases_349 ?_
      refine r_sub (lo1 := [some (rv a0), none, none, none, none, some (.int a5), none, none, none, none, none, none, none]) ⟨Or.inr rfl, ⟨Or.inl rfl, ⟨Or.inl rfl, ⟨Or.inl rfl, ⟨Or.inl rfl, ⟨Or.inr rfl, ⟨Or.inl rfl, ⟨Or.inl rfl, ⟨Or.inl rfl, ⟨Or.inl rfl, ⟨Or.inl rfl, ⟨Or.inl rfl, ⟨Or.inl rfl, trivial⟩⟩⟩⟩⟩⟩⟩⟩⟩⟩⟩⟩⟩ ?_
      exact ok_L_cases_350 hC hQ a0 a5 r1 a9 (2 * a10) h1 hV
    · replace hV := hV.2 k9
      refine r_iload hC dL_cases_341 rfl ?_
      refine r_goto (tgt := 350) hC dL_cases_343 (by decide) ?_
      refine r_sub (lo1 := [some (rv a0), none, none, none, none, some (.int a5), none, none, none, none, none, none, none]) ⟨Or.inr rfl, ⟨Or.inl rfl, ⟨Or.inl rfl, ⟨Or.inl rfl, ⟨Or.inl rfl, ⟨Or.inr rfl, ⟨Or.inl rfl, ⟨Or.inl rfl, ⟨Or.inl rfl, ⟨Or.inl rfl, ⟨Or.inl rfl, ⟨Or.inl rfl, ⟨Or.inl rfl, trivial⟩⟩⟩⟩⟩⟩⟩⟩⟩⟩⟩⟩⟩ ?_
      exact ok_L_cases_350 hC hQ a0 a5 r1 a9 a10 h1 hV
set_option maxRecDepth 100000 in
set_option maxHeartbeats 4000000 in
theorem ok_L_cases_447 {E : Ev} {X : Xt} {l0 : Launch} {K : Int32 → Hp → Prop} (hC : Cx E X l0 RL cL_cases 13 rm_L_cases) (hQ : CQ E X "cases" (some .boolean) rm_L_cases (KI K)) (s0 : Int32) (h : Hp) (hV : V_L_cases_447 K s0 h) : WW E X h 4 226 447 [none, none, none, none, none, none, none, none, none, none, none, none, none] [.int s0] := by
  unfold V_L_cases_447 at hV
  exact r_zret hC hQ dL_cases_447 (Nat.le_of_ble_eq_true rfl) (Nat.le_of_ble_eq_true rfl) hV.1 ⟨_, rfl, hV.2⟩
set_option maxRecDepth 100000 in
set_option maxHeartbeats 4000000 in
theorem ok_L_cases_446 {E : Ev} {X : Xt} {l0 : Launch} {K : Int32 → Hp → Prop} (hC : Cx E X l0 RL cL_cases 13 rm_L_cases) (hQ : CQ E X "cases" (some .boolean) rm_L_cases (KI K)) (h : Hp) (hV : V_L_cases_446 K  h) : WW E X h 4 226 446 [none, none, none, none, none, none, none, none, none, none, none, none, none] [] := by
  unfold V_L_cases_446 at hV
  refine r_iconst (v := 0) hC dL_cases_446 (by decide) ?_
  exact ok_L_cases_447 hC hQ 0 h hV
set_option maxRecDepth 100000 in
set_option maxHeartbeats 4000000 in
theorem ok_L_cases_439 {E : Ev} {X : Xt} {l0 : Launch} {K : Int32 → Hp → Prop} (hC : Cx E X l0 RL cL_cases 13 rm_L_cases) (hQ : CQ E X "cases" (some .boolean) rm_L_cases (KI K)) (s0 : Int32) (s1 : Int32) (h : Hp) (hV : V_L_cases_439 K s0 s1 h) : WW E X h 4 226 439 [none, none, none, none, none, none, none, none, none, none, none, none, none] [.int s1, .int s0] := by
  unfold V_L_cases_439 at hV
  refine r_icmp_ne (tgt := 446) hC dL_cases_439 (by decide) (fun k9 => ?_) (fun k9 => ?_)
  · replace hV := hV.1 k9
    exact ok_L_cases_446 hC hQ  h hV
  · replace hV := hV.2 k9
    refine r_iconst (v := 1) hC dL_cases_442 (by decide) ?_
    refine r_goto (tgt := 447) hC dL_cases_443 (by decide) ?_
    exact ok_L_cases_447 hC hQ 1 h hV
set_option maxRecDepth 100000 in
set_option maxHeartbeats 4000000 in
theorem ok_L_cases_411 {E : Ev} {X : Xt} {l0 : Launch} {K : Int32 → Hp → Prop} (hC : Cx E X l0 RL cL_cases 13 rm_L_cases) (hQ : CQ E X "cases" (some .boolean) rm_L_cases (KI K)) (a0 : Nat) (a5 : Int32) (a6 : Int32) (a7 : Int32) (a9 : Int32) (s0 : Int32) (s1 : Int32) (h : Hp) (hV : V_L_cases_411 K a0 a5 a6 a7 a9 s0 s1 h) : WW E X h 4 226 411 [some (rv a0), none, none, none, none, some (.int a5), some (.int a6), some (.int a7), none, some (.int a9), none, none, none] [.int s1, .int s0] := by
  unfold V_L_cases_411 at hV
  refine r_icmp_ne (tgt := 446) hC dL_cases_411 (by decide) (fun k9 => ?_) (fun k9 => ?_)
  · replace hV := hV.1 k9
    refine r_sub (lo1 := [none, none, none, none, none, none, none, none, none, none, none, none, none]) ⟨Or.inl rfl, ⟨Or.inl rfl, ⟨Or.inl rfl, ⟨Or.inl rfl, ⟨Or.inl rfl, ⟨Or.inl rfl, ⟨Or.inl rfl, ⟨Or.inl rfl, ⟨Or.inl rfl, ⟨Or.inl rfl, ⟨Or.inl rfl, ⟨Or.inl rfl, ⟨Or.inl rfl, trivial⟩⟩⟩⟩⟩⟩⟩⟩⟩⟩⟩⟩⟩ ?_
    exact ok_L_cases_446 hC hQ  h hV
  · replace hV := hV.2 k9
    refine r_aload_n hC dL_cases_414 rfl ?_
    refine r_iload hC dL_cases_415 rfl ?_
    refine r_iload hC dL_cases_417 rfl ?_
    obtain ⟨k9, hV⟩ := hV
    refine r_callV (ci := 6) (As := [.int a5, .int a6]) hC dL_cases_419 rfl cf_X6_pieces ml_7_19 im_X6_pieces sl_X6_pieces lq_6 rfl rfl k9 rfl ⟨(Nat.le_of_ble_eq_true rfl), (Nat.le_of_ble_eq_true rfl), (Nat.le_of_ble_eq_true rfl), (Nat.le_of_ble_eq_true rfl)⟩ cs0 (Nat.le_of_ble_eq_true rfl) (con_X6_pieces a0 a5 a6 h _ hV) rfl (kI (k := 4) (n := 226) (fun r1 h1 hV => ?_))
    refine r_iload hC dL_cases_422 rfl ?_
    refine r_iload hC dL_cases_424 rfl ?_
    refine r_icmp_ge (tgt := 434) hC dL_cases_426 (by decide) (fun k9 => ?_) (fun k9 => ?_)
    · replace hV := hV.1 k9
      refine r_iload hC dL_cases_434 rfl ?_
      refine r_iload hC dL_cases_436 rfl ?_
      refine r_isub hC dL_cases_438 ?_
      refine r_sub (lo1 := [none, none, none, none, none, none, none, none, none, none, none, none, none]) ⟨Or.inl rfl, ⟨Or.inl rfl, ⟨Or.inl rfl, ⟨Or.inl rfl, ⟨Or.inl rfl, ⟨Or.inl rfl, ⟨Or.inl rfl, ⟨Or.inl rfl, ⟨Or.inl rfl, ⟨Or.inl rfl, ⟨Or.inl rfl, ⟨Or.inl rfl, ⟨Or.inl rfl, trivial⟩⟩⟩⟩⟩⟩⟩⟩⟩⟩⟩⟩⟩ ?_
      exact ok_L_cases_439 hC hQ r1 (a9 - a7) h1 hV
    · replace hV := hV.2 k9
      refine r_iload hC dL_cases_429 rfl ?_
      refine r_goto (tgt := 439) hC dL_cases_431 (by decide) ?_
      refine r_sub (lo1 := [none, none, none, none, none, none, none, none, none, none, none, none, none]) ⟨Or.inl rfl, ⟨Or.inl rfl, ⟨Or.inl rfl, ⟨Or.inl rfl, ⟨Or.inl rfl, ⟨Or.inl rfl, ⟨Or.inl rfl, ⟨Or.inl rfl, ⟨Or.inl rfl, ⟨Or.inl rfl, ⟨Or.inl rfl, ⟨Or.inl rfl, ⟨Or.inl rfl, trivial⟩⟩⟩⟩⟩⟩⟩⟩⟩⟩⟩⟩⟩ ?_
      exact ok_L_cases_439 hC hQ r1 a9 h1 hV
set_option maxRecDepth 100000 in
set_option maxHeartbeats 4000000 in
theorem ok_L_cases_506 {E : Ev} {X : Xt} {l0 : Launch} {K : Int32 → Hp → Prop} (hC : Cx E X l0 RL cL_cases 13 rm_L_cases) (hQ : CQ E X "cases" (some .boolean) rm_L_cases (KI K)) (s0 : Int32) (h : Hp) (hV : V_L_cases_506 K s0 h) : WW E X h 4 226 506 [none, none, none, none, none, none, none, none, none, none, none, none, none] [.int s0] := by
  unfold V_L_cases_506 at hV
  exact r_zret hC hQ dL_cases_506 (Nat.le_of_ble_eq_true rfl) (Nat.le_of_ble_eq_true rfl) hV.1 ⟨_, rfl, hV.2⟩
set_option maxRecDepth 100000 in
set_option maxHeartbeats 4000000 in
theorem ok_L_cases_505 {E : Ev} {X : Xt} {l0 : Launch} {K : Int32 → Hp → Prop} (hC : Cx E X l0 RL cL_cases 13 rm_L_cases) (hQ : CQ E X "cases" (some .boolean) rm_L_cases (KI K)) (h : Hp) (hV : V_L_cases_505 K  h) : WW E X h 4 226 505 [none, none, none, none, none, none, none, none, none, none, none, none, none] [] := by
  unfold V_L_cases_505 at hV
  refine r_iconst (v := 0) hC dL_cases_505 (by decide) ?_
  exact ok_L_cases_506 hC hQ 0 h hV
set_option maxRecDepth 100000 in
set_option maxHeartbeats 4000000 in
theorem ok_L_cases_489 {E : Ev} {X : Xt} {l0 : Launch} {K : Int32 → Hp → Prop} (hC : Cx E X l0 RL cL_cases 13 rm_L_cases) (hQ : CQ E X "cases" (some .boolean) rm_L_cases (KI K)) (a0 : Nat) (s0 : Int32) (s1 : Int32) (h : Hp) (hV : V_L_cases_489 K a0 s0 s1 h) : WW E X h 4 226 489 [some (rv a0), none, none, none, none, none, none, none, none, none, none, none, none] [.int s1, .int s0] := by
  unfold V_L_cases_489 at hV
  refine r_icmp_ne (tgt := 505) hC dL_cases_489 (by decide) (fun k9 => ?_) (fun k9 => ?_)
  · replace hV := hV.1 k9
    refine r_sub (lo1 := [none, none, none, none, none, none, none, none, none, none, none, none, none]) ⟨Or.inl rfl, ⟨Or.inl rfl, ⟨Or.inl rfl, ⟨Or.inl rfl, ⟨Or.inl rfl, ⟨Or.inl rfl, ⟨Or.inl rfl, ⟨Or.inl rfl, ⟨Or.inl rfl, ⟨Or.inl rfl, ⟨Or.inl rfl, ⟨Or.inl rfl, ⟨Or.inl rfl, trivial⟩⟩⟩⟩⟩⟩⟩⟩⟩⟩⟩⟩⟩ ?_
    exact ok_L_cases_505 hC hQ  h hV
  · replace hV := hV.2 k9
    refine r_aload_n hC dL_cases_492 rfl ?_
    refine r_bipush (v := 10) hC dL_cases_493 (by decide) ?_
    obtain ⟨k9, hV⟩ := hV
    refine r_callV (ci := 6) (As := [.int 10]) hC dL_cases_495 rfl cf_X6_count ml_7_13 im_X6_count sl_X6_count lq_6 rfl rfl k9 rfl ⟨(Nat.le_of_ble_eq_true rfl), (Nat.le_of_ble_eq_true rfl), (Nat.le_of_ble_eq_true rfl), (Nat.le_of_ble_eq_true rfl)⟩ cs0 (Nat.le_of_ble_eq_true rfl) (con_X6_count a0 10 h _ hV) rfl (kI (k := 4) (n := 226) (fun r1 h1 hV => ?_))
    refine r_if_ne (tgt := 505) hC dL_cases_498 (by decide) (fun k9 => ?_) (fun k9 => ?_)
    · replace hV := hV.1 k9
      refine r_sub (lo1 := [none, none, none, none, none, none, none, none, none, none, none, none, none]) ⟨Or.inl rfl, ⟨Or.inl rfl, ⟨Or.inl rfl, ⟨Or.inl rfl, ⟨Or.inl rfl, ⟨Or.inl rfl, ⟨Or.inl rfl, ⟨Or.inl rfl, ⟨Or.inl rfl, ⟨Or.inl rfl, ⟨Or.inl rfl, ⟨Or.inl rfl, ⟨Or.inl rfl, trivial⟩⟩⟩⟩⟩⟩⟩⟩⟩⟩⟩⟩⟩ ?_
      exact ok_L_cases_505 hC hQ  h1 hV
    · replace hV := hV.2 k9
      refine r_iconst (v := 1) hC dL_cases_501 (by decide) ?_
      refine r_goto (tgt := 506) hC dL_cases_502 (by decide) ?_
      refine r_sub (lo1 := [none, none, none, none, none, none, none, none, none, none, none, none, none]) ⟨Or.inl rfl, ⟨Or.inl rfl, ⟨Or.inl rfl, ⟨Or.inl rfl, ⟨Or.inl rfl, ⟨Or.inl rfl, ⟨Or.inl rfl, ⟨Or.inl rfl, ⟨Or.inl rfl, ⟨Or.inl rfl, ⟨Or.inl rfl, ⟨Or.inl rfl, ⟨Or.inl rfl, trivial⟩⟩⟩⟩⟩⟩⟩⟩⟩⟩⟩⟩⟩ ?_
      exact ok_L_cases_506 hC hQ 1 h1 hV
set_option maxRecDepth 100000 in
set_option maxHeartbeats 4000000 in
theorem ok_L_cases_0 {E : Ev} {X : Xt} {l0 : Launch} {K : Int32 → Hp → Prop} (hC : Cx E X l0 RL cL_cases 13 rm_L_cases) (hQ : CQ E X "cases" (some .boolean) rm_L_cases (KI K)) (a0 : Nat) (a1 : Int32) (a2 : Int32) (a3 : Int32) (h : Hp) (hV : V_L_cases a0 a1 a2 a3 h K) : WW E X h 0 0 0 [some (rv a0), some (.int a1), some (.int a2), some (.int a3), none, none, none, none, none, none, none, none, none] [] := by
  unfold V_L_cases at hV
  refine r_aload_n hC dL_cases_0 rfl ?_
  refine r_iconst (v := 0) hC dL_cases_1 (by decide) ?_
  obtain ⟨k9, hV⟩ := hV
  refine r_callV (ci := 6) (As := [.int 0]) hC dL_cases_2 rfl cf_X6_count ml_7_13 im_X6_count sl_X6_count lq_6 rfl rfl k9 rfl ⟨(Nat.le_of_ble_eq_true rfl), (Nat.le_of_ble_eq_true rfl), (Nat.le_of_ble_eq_true rfl), (Nat.le_of_ble_eq_true rfl)⟩ cs0 (Nat.le_of_ble_eq_true rfl) (con_X6_count a0 0 h _ hV) rfl (kI (k := 0) (n := 0) (fun r1 h1 hV => ?_))
  refine r_istore (lo1 := [some (rv a0), some (.int a1), some (.int a2), some (.int a3), some (.int r1), none, none, none, none, none, none, none, none]) hC dL_cases_5 (Nat.le_of_ble_eq_true rfl) (pvI rfl) rfl ?_
  refine r_iload_n hC dL_cases_7 rfl ?_
  refine r_iconst (v := 2) hC dL_cases_8 (by decide) ?_
  refine r_icmp_ge (tgt := 77) hC dL_cases_9 (by decide) (fun k9 => ?_) (fun k9 => ?_)
  · replace hV := hV.1 k9
    refine r_iload hC dL_cases_77 rfl ?_
    refine r_if_eq (tgt := 87) hC dL_cases_79 (by decide) (fun k9 => ?_) (fun k9 => ?_)
    · replace hV := hV.1 k9
      refine r_sub (lo1 := [some (rv a0), none, none, none, some (.int r1), none, none, none, none, none, none, none, none]) ⟨Or.inr rfl, ⟨Or.inl rfl, ⟨Or.inl rfl, ⟨Or.inl rfl, ⟨Or.inr rfl, ⟨Or.inl rfl, ⟨Or.inl rfl, ⟨Or.inl rfl, ⟨Or.inl rfl, ⟨Or.inl rfl, ⟨Or.inl rfl, ⟨Or.inl rfl, ⟨Or.inl rfl, trivial⟩⟩⟩⟩⟩⟩⟩⟩⟩⟩⟩⟩⟩ ?_
      exact ok_L_cases_87 hC hQ a0 r1 h1 hV
    · replace hV := hV.2 k9
      refine r_iload_n hC dL_cases_82 rfl ?_
      refine r_iconst (v := 2) hC dL_cases_83 (by decide) ?_
      refine r_icmp_ne (tgt := 114) hC dL_cases_84 (by decide) (fun k9 => ?_) (fun k9 => ?_)
      · replace hV := hV.1 k9
        refine r_iload_n hC dL_cases_114 rfl ?_
        refine r_iload hC dL_cases_115 rfl ?_
        refine r_callS (As := [.int a2, .int r1]) hC dL_cases_117 rfl cf_L_low ml_7_48 st_L_low rfl ⟨(Nat.le_of_ble_eq_true rfl), (Nat.le_of_ble_eq_true rfl), (Nat.le_of_ble_eq_true rfl), (Nat.le_of_ble_eq_true rfl)⟩ cs0 (Nat.le_of_ble_eq_true rfl) (con_L_low a2 r1 h1 _ hV) rfl (kI (k := 0) (n := 0) (fun r2 h2 hV => ?_))
        refine r_istore (lo1 := [some (rv a0), some (.int a1), some (.int a2), some (.int a3), some (.int r1), some (.int r2), none, none, none, none, none, none, none]) hC dL_cases_120 (Nat.le_of_ble_eq_true rfl) (pvI rfl) rfl ?_
        refine r_iload_n hC dL_cases_122 rfl ?_
        refine r_bipush (v := 29) hC dL_cases_123 (by decide) ?_
        refine r_callS (As := [.int a3, .int 29]) hC dL_cases_125 rfl cf_L_low ml_7_48 st_L_low rfl ⟨(Nat.le_of_ble_eq_true rfl), (Nat.le_of_ble_eq_true rfl), (Nat.le_of_ble_eq_true rfl), (Nat.le_of_ble_eq_true rfl)⟩ cs0 (Nat.le_of_ble_eq_true rfl) (con_L_low a3 29 h2 _ hV) rfl (kI (k := 0) (n := 0) (fun r3 h3 hV => ?_))
        refine r_istore (lo1 := [some (rv a0), some (.int a1), some (.int a2), some (.int a3), some (.int r1), some (.int r2), some (.int r3), none, none, none, none, none, none]) hC dL_cases_128 (Nat.le_of_ble_eq_true rfl) (pvI rfl) rfl ?_
        refine r_iconst (v := 1) hC dL_cases_130 (by decide) ?_
        refine r_iload_n hC dL_cases_131 rfl ?_
        refine r_iconst (v := 5) hC dL_cases_132 (by decide) ?_
        refine r_ishr hC dL_cases_133 ?_
        refine r_bipush (v := 40) hC dL_cases_134 (by decide) ?_
        refine r_callS (As := [.int (a3 >>> ((5 : Int32) &&& 31)), .int 40]) hC dL_cases_136 rfl cf_L_low ml_7_48 st_L_low rfl ⟨(Nat.le_of_ble_eq_true rfl), (Nat.le_of_ble_eq_true rfl), (Nat.le_of_ble_eq_true rfl), (Nat.le_of_ble_eq_true rfl)⟩ (csI cs0) (Nat.le_of_ble_eq_true rfl) (con_L_low (a3 >>> ((5 : Int32) &&& 31)) 40 h3 _ hV) rfl (kI (k := 0) (n := 0) (fun r4 h4 hV => ?_))
        refine r_iadd hC dL_cases_139 ?_
        refine r_istore (lo1 := [some (rv a0), some (.int a1), some (.int a2), some (.int a3), some (.int r1), some (.int r2), some (.int r3), some (.int (1 + r4)), none, none, none, none, none]) hC dL_cases_140 (Nat.le_of_ble_eq_true rfl) (pvI rfl) rfl ?_
        refine r_aload_n hC dL_cases_142 rfl ?_
        refine r_iconst (v := 2) hC dL_cases_143 (by decide) ?_
        obtain ⟨k9, hV⟩ := hV
        refine r_callV (ci := 6) (As := [.int 2]) hC dL_cases_144 rfl cf_X6_count ml_7_13 im_X6_count sl_X6_count lq_6 rfl rfl k9 rfl ⟨(Nat.le_of_ble_eq_true rfl), (Nat.le_of_ble_eq_true rfl), (Nat.le_of_ble_eq_true rfl), (Nat.le_of_ble_eq_true rfl)⟩ cs0 (Nat.le_of_ble_eq_true rfl) (con_X6_count a0 2 h4 _ hV) rfl (kI (k := 0) (n := 0) (fun r5 h5 hV => ?_))
        refine r_istore (lo1 := [some (rv a0), some (.int a1), some (.int a2), some (.int a3), some (.int r1), some (.int r2), some (.int r3), some (.int (1 + r4)), some (.int r5), none, none, none, none]) hC dL_cases_147 (Nat.le_of_ble_eq_true rfl) (pvI rfl) rfl ?_
        refine r_aload_n hC dL_cases_149 rfl ?_
        refine r_iload hC dL_cases_150 rfl ?_
        refine r_iload hC dL_cases_152 rfl ?_
        obtain ⟨k9, hV⟩ := hV
        refine r_callV (ci := 6) (As := [.int r2, .int r3]) hC dL_cases_154 rfl cf_X6_pieces ml_7_19 im_X6_pieces sl_X6_pieces lq_6 rfl rfl k9 rfl ⟨(Nat.le_of_ble_eq_true rfl), (Nat.le_of_ble_eq_true rfl), (Nat.le_of_ble_eq_true rfl), (Nat.le_of_ble_eq_true rfl)⟩ cs0 (Nat.le_of_ble_eq_true rfl) (con_X6_pieces a0 r2 r3 h5 _ hV) rfl (kI (k := 0) (n := 0) (fun r6 h6 hV => ?_))
        refine r_istore (lo1 := [some (rv a0), some (.int a1), some (.int a2), some (.int a3), some (.int r1), some (.int r2), some (.int r3), some (.int (1 + r4)), some (.int r5), some (.int r6), none, none, none]) hC dL_cases_157 (Nat.le_of_ble_eq_true rfl) (pvI rfl) rfl ?_
        refine r_iload_n hC dL_cases_159 rfl ?_
        refine r_iconst (v := 3) hC dL_cases_160 (by decide) ?_
        refine r_icmp_ne (tgt := 271) hC dL_cases_161 (by decide) (fun k9 => ?_) (fun k9 => ?_)
        · replace hV := hV.1 k9
          refine r_iload_n hC dL_cases_271 rfl ?_
          refine r_iconst (v := 4) hC dL_cases_272 (by decide) ?_
          refine r_icmp_ne (tgt := 373) hC dL_cases_273 (by decide) (fun k9 => ?_) (fun k9 => ?_)
          · replace hV := hV.1 k9
            refine r_iload_n hC dL_cases_373 rfl ?_
            refine r_iconst (v := 5) hC dL_cases_374 (by decide) ?_
            refine r_icmp_ne (tgt := 448) hC dL_cases_375 (by decide) (fun k9 => ?_) (fun k9 => ?_)
            · replace hV := hV.1 k9
              refine r_aload_n hC dL_cases_448 rfl ?_
              refine r_bipush (v := 10) hC dL_cases_449 (by decide) ?_
              obtain ⟨k9, hV⟩ := hV
              refine r_callV (ci := 6) (As := [.int 10]) hC dL_cases_451 rfl cf_X6_count ml_7_13 im_X6_count sl_X6_count lq_6 rfl rfl k9 rfl ⟨(Nat.le_of_ble_eq_true rfl), (Nat.le_of_ble_eq_true rfl), (Nat.le_of_ble_eq_true rfl), (Nat.le_of_ble_eq_true rfl)⟩ cs0 (Nat.le_of_ble_eq_true rfl) (con_X6_count a0 10 h6 _ hV) rfl (kI (k := 0) (n := 0) (fun r7 h7 hV => ?_))
              refine r_istore (lo1 := [some (rv a0), some (.int a1), some (.int a2), some (.int a3), some (.int r1), some (.int r2), some (.int r3), some (.int (1 + r4)), some (.int r5), some (.int r6), some (.int r7), none, none]) hC dL_cases_454 (Nat.le_of_ble_eq_true rfl) (pvI rfl) rfl ?_
              refine r_aload_n hC dL_cases_456 rfl ?_
              refine r_iconst (v := 5) hC dL_cases_457 (by decide) ?_
              obtain ⟨k9, hV⟩ := hV
              refine r_callV (ci := 6) (As := [.int 5]) hC dL_cases_458 rfl cf_X6_count ml_7_13 im_X6_count sl_X6_count lq_6 rfl rfl k9 rfl ⟨(Nat.le_of_ble_eq_true rfl), (Nat.le_of_ble_eq_true rfl), (Nat.le_of_ble_eq_true rfl), (Nat.le_of_ble_eq_true rfl)⟩ cs0 (Nat.le_of_ble_eq_true rfl) (con_X6_count a0 5 h7 _ hV) rfl (kI (k := 0) (n := 0) (fun r8 h8 hV => ?_))
              refine r_istore (lo1 := [some (rv a0), some (.int a1), some (.int a2), some (.int a3), some (.int r1), some (.int r2), some (.int r3), some (.int (1 + r4)), some (.int r5), some (.int r6), some (.int r7), some (.int r8), none]) hC dL_cases_461 (Nat.le_of_ble_eq_true rfl) (pvI rfl) rfl ?_
              refine r_aload_n hC dL_cases_463 rfl ?_
              obtain ⟨k9, hV⟩ := hV
              refine r_callV (ci := 6) (As := []) hC dL_cases_464 rfl cf_X6_meltBox ml_7_74 im_X6_meltBox sl_X6_meltBox lq_6 rfl rfl k9 rfl ⟨(Nat.le_of_ble_eq_true rfl), (Nat.le_of_ble_eq_true rfl), (Nat.le_of_ble_eq_true rfl), (Nat.le_of_ble_eq_true rfl)⟩ cs0 (Nat.le_of_ble_eq_true rfl) (con_X6_meltBox a0 h8 _ hV) rfl (kI (k := 4) (n := 226) (fun r9 h9 hV => ?_))
              refine r_istore (lo1 := [some (rv a0), some (.int a1), some (.int a2), some (.int a3), some (.int r1), some (.int r2), some (.int r3), some (.int (1 + r4)), some (.int r5), some (.int r6), some (.int r7), some (.int r8), some (.int r9)]) hC dL_cases_467 (Nat.le_of_ble_eq_true rfl) (pvI rfl) rfl ?_
              refine r_iload hC dL_cases_469 rfl ?_
              refine r_iload hC dL_cases_471 rfl ?_
              refine r_if_ne (tgt := 481) hC dL_cases_473 (by decide) (fun k9 => ?_) (fun k9 => ?_)
              · replace hV := hV.1 k9
                refine r_iload hC dL_cases_481 rfl ?_
                refine r_iload hC dL_cases_483 rfl ?_
                refine r_bipush (v := 50) hC dL_cases_485 (by decide) ?_
                refine r_idiv hC dL_cases_487 (by decide) ?_
                refine r_isub hC dL_cases_488 ?_
                refine r_sub (lo1 := [some (rv a0), none, none, none, none, none, none, none, none, none, none, none, none]) ⟨Or.inr rfl, ⟨Or.inl rfl, ⟨Or.inl rfl, ⟨Or.inl rfl, ⟨Or.inl rfl, ⟨Or.inl rfl, ⟨Or.inl rfl, ⟨Or.inl rfl, ⟨Or.inl rfl, ⟨Or.inl rfl, ⟨Or.inl rfl, ⟨Or.inl rfl, ⟨Or.inl rfl, trivial⟩⟩⟩⟩⟩⟩⟩⟩⟩⟩⟩⟩⟩ ?_
                exact ok_L_cases_489 hC hQ a0 r9 (r8 - (r8 / 50)) h9 hV
              · replace hV := hV.2 k9
                refine r_bipush (v := (-5)) hC dL_cases_476 (by decide) ?_
                refine r_goto (tgt := 489) hC dL_cases_478 (by decide) ?_
                refine r_sub (lo1 := [some (rv a0), none, none, none, none, none, none, none, none, none, none, none, none]) ⟨Or.inr rfl, ⟨Or.inl rfl, ⟨Or.inl rfl, ⟨Or.inl rfl, ⟨Or.inl rfl, ⟨Or.inl rfl, ⟨Or.inl rfl, ⟨Or.inl rfl, ⟨Or.inl rfl, ⟨Or.inl rfl, ⟨Or.inl rfl, ⟨Or.inl rfl, ⟨Or.inl rfl, trivial⟩⟩⟩⟩⟩⟩⟩⟩⟩⟩⟩⟩⟩ ?_
                exact ok_L_cases_489 hC hQ a0 r9 (-5) h9 hV
            · replace hV := hV.2 k9
              refine r_aload_n hC dL_cases_378 rfl ?_
              refine r_iload hC dL_cases_379 rfl ?_
              refine r_iload hC dL_cases_381 rfl ?_
              refine r_iload hC dL_cases_383 rfl ?_
              obtain ⟨k9, hV⟩ := hV
              refine r_callV (ci := 6) (As := [.int r2, .int r3, .int (1 + r4)]) hC dL_cases_385 rfl cf_X6_melt ml_7_71 im_X6_melt sl_X6_melt lq_6 rfl rfl k9 rfl ⟨(Nat.le_of_ble_eq_true rfl), (Nat.le_of_ble_eq_true rfl), (Nat.le_of_ble_eq_true rfl), (Nat.le_of_ble_eq_true rfl)⟩ cs0 (Nat.le_of_ble_eq_true rfl) (con_X6_melt a0 r2 r3 (1 + r4) h6 _ hV) rfl (kI (k := 4) (n := 226) (fun r7 h7 hV => ?_))
              refine r_iload hC dL_cases_388 rfl ?_
              refine r_iload hC dL_cases_390 rfl ?_
              refine r_icmp_ge (tgt := 400) hC dL_cases_392 (by decide) (fun k9 => ?_) (fun k9 => ?_)
              · replace hV := hV.1 k9
                refine r_iload hC dL_cases_400 rfl ?_
                refine r_iload hC dL_cases_402 rfl ?_
                refine r_iload hC dL_cases_404 rfl ?_
                refine r_callS (As := [.int r3]) hC dL_cases_406 rfl cf_L_width ml_7_26 st_L_width rfl ⟨(Nat.le_of_ble_eq_true rfl), (Nat.le_of_ble_eq_true rfl), (Nat.le_of_ble_eq_true rfl), (Nat.le_of_ble_eq_true rfl)⟩ (csI (csI (csI cs0))) (Nat.le_of_ble_eq_true rfl) (con_L_width r3 h7 _ hV) rfl (kI (k := 4) (n := 226) (fun r8 h8 hV => ?_))
                refine r_imul hC dL_cases_409 ?_
                refine r_iadd hC dL_cases_410 ?_
                refine r_sub (lo1 := [some (rv a0), none, none, none, none, some (.int r2), some (.int r3), some (.int (1 + r4)), none, some (.int r6), none, none, none]) ⟨Or.inr rfl, ⟨Or.inl rfl, ⟨Or.inl rfl, ⟨Or.inl rfl, ⟨Or.inl rfl, ⟨Or.inr rfl, ⟨Or.inr rfl, ⟨Or.inr rfl, ⟨Or.inl rfl, ⟨Or.inr rfl, ⟨Or.inl rfl, ⟨Or.inl rfl, ⟨Or.inl rfl, trivial⟩⟩⟩⟩⟩⟩⟩⟩⟩⟩⟩⟩⟩ ?_
                exact ok_L_cases_411 hC hQ a0 r2 r3 (1 + r4) r6 r7 (r5 + ((1 + r4) * r8)) h8 hV
              · replace hV := hV.2 k9
                refine r_bipush (v := (-4)) hC dL_cases_395 (by decide) ?_
                refine r_goto (tgt := 411) hC dL_cases_397 (by decide) ?_
                refine r_sub (lo1 := [some (rv a0), none, none, none, none, some (.int r2), some (.int r3), some (.int (1 + r4)), none, some (.int r6), none, none, none]) ⟨Or.inr rfl, ⟨Or.inl rfl, ⟨Or.inl rfl, ⟨Or.inl rfl, ⟨Or.inl rfl, ⟨Or.inr rfl, ⟨Or.inr rfl, ⟨Or.inr rfl, ⟨Or.inl rfl, ⟨Or.inr rfl, ⟨Or.inl rfl, ⟨Or.inl rfl, ⟨Or.inl rfl, trivial⟩⟩⟩⟩⟩⟩⟩⟩⟩⟩⟩⟩⟩ ?_
                exact ok_L_cases_411 hC hQ a0 r2 r3 (1 + r4) r6 r7 (-4) h7 hV
          · replace hV := hV.2 k9
            refine r_iconst (v := 1) hC dL_cases_276 (by decide) ?_
            refine r_iload_n hC dL_cases_277 rfl ?_
            refine r_iconst (v := 4) hC dL_cases_278 (by decide) ?_
            refine r_callS (As := [.int a3, .int 4]) hC dL_cases_279 rfl cf_L_low ml_7_48 st_L_low rfl ⟨(Nat.le_of_ble_eq_true rfl), (Nat.le_of_ble_eq_true rfl), (Nat.le_of_ble_eq_true rfl), (Nat.le_of_ble_eq_true rfl)⟩ (csI cs0) (Nat.le_of_ble_eq_true rfl) (con_L_low a3 4 h6 _ hV) rfl (kI (k := 0) (n := 0) (fun r7 h7 hV => ?_))
            refine r_iadd hC dL_cases_282 ?_
            refine r_istore (lo1 := [some (rv a0), some (.int a1), some (.int a2), some (.int a3), some (.int r1), some (.int r2), some (.int r3), some (.int (1 + r4)), some (.int r5), some (.int r6), some (.int (1 + r7)), none, none]) hC dL_cases_283 (Nat.le_of_ble_eq_true rfl) (pvI rfl) rfl ?_
            refine r_aload_n hC dL_cases_285 rfl ?_
            refine r_iload hC dL_cases_286 rfl ?_
            refine r_iload hC dL_cases_288 rfl ?_
            obtain ⟨k9, hV⟩ := hV
            refine r_callV (ci := 6) (As := [.int r2, .int (1 + r7)]) hC dL_cases_290 rfl cf_X6_castFount ml_7_68 im_X6_castFount sl_X6_castFount lq_6 rfl rfl k9 rfl ⟨(Nat.le_of_ble_eq_true rfl), (Nat.le_of_ble_eq_true rfl), (Nat.le_of_ble_eq_true rfl), (Nat.le_of_ble_eq_true rfl)⟩ cs0 (Nat.le_of_ble_eq_true rfl) (con_X6_castFount a0 r2 (1 + r7) h7 _ hV) rfl (kI (k := 4) (n := 226) (fun r8 h8 hV => ?_))
            refine r_istore (lo1 := [some (rv a0), some (.int a1), some (.int a2), some (.int a3), some (.int r1), some (.int r2), some (.int r3), some (.int (1 + r4)), some (.int r5), some (.int r6), some (.int (1 + r7)), some (.int r8), none]) hC dL_cases_293 (Nat.le_of_ble_eq_true rfl) (pvI rfl) rfl ?_
            refine r_iload hC dL_cases_295 rfl ?_
            refine r_bipush (v := 32) hC dL_cases_297 (by decide) ?_
            refine r_iload hC dL_cases_299 rfl ?_
            refine r_imul hC dL_cases_301 ?_
            refine r_icmp_eq (tgt := 319) hC dL_cases_302 (by decide) (fun k9 => ?_) (fun k9 => ?_)
            · replace hV := hV.1 k9
              refine r_sub (lo1 := [some (rv a0), none, none, none, none, some (.int r2), some (.int r3), none, none, some (.int r6), some (.int (1 + r7)), some (.int r8), none]) ⟨Or.inr rfl, ⟨Or.inl rfl, ⟨Or.inl rfl, ⟨Or.inl rfl, ⟨Or.inl rfl, ⟨Or.inr rfl, ⟨Or.inr rfl, ⟨Or.inl rfl, ⟨Or.inl rfl, ⟨Or.inr rfl, ⟨Or.inr rfl, ⟨Or.inr rfl, ⟨Or.inl rfl, trivial⟩⟩⟩⟩⟩⟩⟩⟩⟩⟩⟩⟩⟩ ?_
              exact ok_L_cases_319 hC hQ a0 r2 r3 r6 (1 + r7) r8 h8 hV
            · replace hV := hV.2 k9
              refine r_iload hC dL_cases_305 rfl ?_
              refine r_bipush (v := (-3)) hC dL_cases_307 (by decide) ?_
              refine r_icmp_eq (tgt := 319) hC dL_cases_309 (by decide) (fun k9 => ?_) (fun k9 => ?_)
              · replace hV := hV.1 k9
                refine r_sub (lo1 := [some (rv a0), none, none, none, none, some (.int r2), some (.int r3), none, none, some (.int r6), some (.int (1 + r7)), some (.int r8), none]) ⟨Or.inr rfl, ⟨Or.inl rfl, ⟨Or.inl rfl, ⟨Or.inl rfl, ⟨Or.inl rfl, ⟨Or.inr rfl, ⟨Or.inr rfl, ⟨Or.inl rfl, ⟨Or.inl rfl, ⟨Or.inr rfl, ⟨Or.inr rfl, ⟨Or.inr rfl, ⟨Or.inl rfl, trivial⟩⟩⟩⟩⟩⟩⟩⟩⟩⟩⟩⟩⟩ ?_
                exact ok_L_cases_319 hC hQ a0 r2 r3 r6 (1 + r7) r8 h8 hV
              · replace hV := hV.2 k9
                refine r_iload hC dL_cases_312 rfl ?_
                refine r_bipush (v := (-4)) hC dL_cases_314 (by decide) ?_
                refine r_icmp_ne (tgt := 371) hC dL_cases_316 (by decide) (fun k9 => ?_) (fun k9 => ?_)
                · replace hV := hV.1 k9
                  refine r_wide (k1 := 8) (n1 := 452) (Nat.le_of_ble_eq_true rfl) (Nat.le_of_ble_eq_true rfl) ?_
                  refine r_sub (lo1 := [none, none, none, none, none, none, none, none, none, none, none, none, none]) ⟨Or.inl rfl, ⟨Or.inl rfl, ⟨Or.inl rfl, ⟨Or.inl rfl, ⟨Or.inl rfl, ⟨Or.inl rfl, ⟨Or.inl rfl, ⟨Or.inl rfl, ⟨Or.inl rfl, ⟨Or.inl rfl, ⟨Or.inl rfl, ⟨Or.inl rfl, ⟨Or.inl rfl, trivial⟩⟩⟩⟩⟩⟩⟩⟩⟩⟩⟩⟩⟩ ?_
                  exact ok_L_cases_371 hC hQ  h8 hV
                · replace hV := hV.2 k9
                  refine r_sub (lo1 := [some (rv a0), none, none, none, none, some (.int r2), some (.int r3), none, none, some (.int r6), some (.int (1 + r7)), some (.int r8), none]) ⟨Or.inr rfl, ⟨Or.inl rfl, ⟨Or.inl rfl, ⟨Or.inl rfl, ⟨Or.inl rfl, ⟨Or.inr rfl, ⟨Or.inr rfl, ⟨Or.inl rfl, ⟨Or.inl rfl, ⟨Or.inr rfl, ⟨Or.inr rfl, ⟨Or.inr rfl, ⟨Or.inl rfl, trivial⟩⟩⟩⟩⟩⟩⟩⟩⟩⟩⟩⟩⟩ ?_
                  exact ok_L_cases_319 hC hQ a0 r2 r3 r6 (1 + r7) r8 h8 hV
        · replace hV := hV.2 k9
          refine r_aload_n hC dL_cases_164 rfl ?_
          refine r_iload hC dL_cases_165 rfl ?_
          refine r_iload hC dL_cases_167 rfl ?_
          refine r_iload hC dL_cases_169 rfl ?_
          obtain ⟨k9, hV⟩ := hV
          refine r_callV (ci := 6) (As := [.int r2, .int r3, .int (1 + r4)]) hC dL_cases_171 rfl cf_X6_cast ml_7_65 im_X6_cast sl_X6_cast lq_6 rfl rfl k9 rfl ⟨(Nat.le_of_ble_eq_true rfl), (Nat.le_of_ble_eq_true rfl), (Nat.le_of_ble_eq_true rfl), (Nat.le_of_ble_eq_true rfl)⟩ cs0 (Nat.le_of_ble_eq_true rfl) (con_X6_cast a0 r2 r3 (1 + r4) h6 _ hV) rfl (kI (k := 4) (n := 226) (fun r7 h7 hV => ?_))
          refine r_istore (lo1 := [some (rv a0), some (.int a1), some (.int a2), some (.int a3), some (.int r1), some (.int r2), some (.int r3), some (.int (1 + r4)), some (.int r5), some (.int r6), some (.int r7), none, none]) hC dL_cases_174 (Nat.le_of_ble_eq_true rfl) (pvI rfl) rfl ?_
          refine r_iload hC dL_cases_176 rfl ?_
          refine r_iload hC dL_cases_178 rfl ?_
          refine r_iadd hC dL_cases_180 ?_
          refine r_bipush (v := 99) hC dL_cases_181 (by decide) ?_
          refine r_icmp_le (tgt := 191) hC dL_cases_183 (by decide) (fun k9 => ?_) (fun k9 => ?_)
          · replace hV := hV.1 k9
            refine r_iload hC dL_cases_191 rfl ?_
            refine r_iload hC dL_cases_193 rfl ?_
            refine r_callS (As := [.int r3]) hC dL_cases_195 rfl cf_L_width ml_7_26 st_L_width rfl ⟨(Nat.le_of_ble_eq_true rfl), (Nat.le_of_ble_eq_true rfl), (Nat.le_of_ble_eq_true rfl), (Nat.le_of_ble_eq_true rfl)⟩ (csI cs0) (Nat.le_of_ble_eq_true rfl) (con_L_width r3 h7 _ hV) rfl (kI (k := 4) (n := 226) (fun r8 h8 hV => ?_))
            refine r_imul hC dL_cases_198 ?_
            refine r_iload hC dL_cases_199 rfl ?_
            refine r_icmp_le (tgt := 209) hC dL_cases_201 (by decide) (fun k9 => ?_) (fun k9 => ?_)
            · replace hV := hV.1 k9
              refine r_iload hC dL_cases_209 rfl ?_
              refine r_iload hC dL_cases_211 rfl ?_
              refine r_iadd hC dL_cases_213 ?_
              refine r_sub (lo1 := [some (rv a0), none, none, none, none, some (.int r2), some (.int r3), some (.int (1 + r4)), some (.int r5), none, some (.int r7), none, none]) ⟨Or.inr rfl, ⟨Or.inl rfl, ⟨Or.inl rfl, ⟨Or.inl rfl, ⟨Or.inl rfl, ⟨Or.inr rfl, ⟨Or.inr rfl, ⟨Or.inr rfl, ⟨Or.inr rfl, ⟨Or.inl rfl, ⟨Or.inr rfl, ⟨Or.inl rfl, ⟨Or.inl rfl, trivial⟩⟩⟩⟩⟩⟩⟩⟩⟩⟩⟩⟩⟩ ?_
              exact ok_L_cases_214 hC hQ a0 r2 r3 (1 + r4) r5 r7 (r6 + (1 + r4)) h8 hV
            · replace hV := hV.2 k9
              refine r_bipush (v := (-4)) hC dL_cases_204 (by decide) ?_
              refine r_goto (tgt := 214) hC dL_cases_206 (by decide) ?_
              refine r_sub (lo1 := [some (rv a0), none, none, none, none, some (.int r2), some (.int r3), some (.int (1 + r4)), some (.int r5), none, some (.int r7), none, none]) ⟨Or.inr rfl, ⟨Or.inl rfl, ⟨Or.inl rfl, ⟨Or.inl rfl, ⟨Or.inl rfl, ⟨Or.inr rfl, ⟨Or.inr rfl, ⟨Or.inr rfl, ⟨Or.inr rfl, ⟨Or.inl rfl, ⟨Or.inr rfl, ⟨Or.inl rfl, ⟨Or.inl rfl, trivial⟩⟩⟩⟩⟩⟩⟩⟩⟩⟩⟩⟩⟩ ?_
              exact ok_L_cases_214 hC hQ a0 r2 r3 (1 + r4) r5 r7 (-4) h8 hV
          · replace hV := hV.2 k9
            refine r_bipush (v := (-3)) hC dL_cases_186 (by decide) ?_
            refine r_goto (tgt := 214) hC dL_cases_188 (by decide) ?_
            refine r_sub (lo1 := [some (rv a0), none, none, none, none, some (.int r2), some (.int r3), some (.int (1 + r4)), some (.int r5), none, some (.int r7), none, none]) ⟨Or.inr rfl, ⟨Or.inl rfl, ⟨Or.inl rfl, ⟨Or.inl rfl, ⟨Or.inl rfl, ⟨Or.inr rfl, ⟨Or.inr rfl, ⟨Or.inr rfl, ⟨Or.inr rfl, ⟨Or.inl rfl, ⟨Or.inr rfl, ⟨Or.inl rfl, ⟨Or.inl rfl, trivial⟩⟩⟩⟩⟩⟩⟩⟩⟩⟩⟩⟩⟩ ?_
            exact ok_L_cases_214 hC hQ a0 r2 r3 (1 + r4) r5 r7 (-3) h7 hV
      · replace hV := hV.2 k9
        refine r_sub (lo1 := [some (rv a0), none, none, none, some (.int r1), none, none, none, none, none, none, none, none]) ⟨Or.inr rfl, ⟨Or.inl rfl, ⟨Or.inl rfl, ⟨Or.inl rfl, ⟨Or.inr rfl, ⟨Or.inl rfl, ⟨Or.inl rfl, ⟨Or.inl rfl, ⟨Or.inl rfl, ⟨Or.inl rfl, ⟨Or.inl rfl, ⟨Or.inl rfl, ⟨Or.inl rfl, trivial⟩⟩⟩⟩⟩⟩⟩⟩⟩⟩⟩⟩⟩ ?_
        exact ok_L_cases_87 hC hQ a0 r1 h1 hV
  · replace hV := hV.2 k9
    refine r_iconst (v := 1) hC dL_cases_12 (by decide) ?_
    refine r_iload_n hC dL_cases_13 rfl ?_
    refine r_sipush (v := 20000) hC dL_cases_14 (by decide) ?_
    refine r_callS (As := [.int a3, .int 20000]) hC dL_cases_17 rfl cf_L_low ml_7_48 st_L_low rfl ⟨(Nat.le_of_ble_eq_true rfl), (Nat.le_of_ble_eq_true rfl), (Nat.le_of_ble_eq_true rfl), (Nat.le_of_ble_eq_true rfl)⟩ (csI cs0) (Nat.le_of_ble_eq_true rfl) (con_L_low a3 20000 h1 _ hV) rfl (kI (k := 0) (n := 0) (fun r2 h2 hV => ?_))
    refine r_iadd hC dL_cases_20 ?_
    refine r_istore (lo1 := [some (rv a0), some (.int a1), some (.int a2), some (.int a3), some (.int r1), some (.int (1 + r2)), none, none, none, none, none, none, none]) hC dL_cases_21 (Nat.le_of_ble_eq_true rfl) (pvI rfl) rfl ?_
    refine r_aload_n hC dL_cases_23 rfl ?_
    refine r_iconst (v := 2) hC dL_cases_24 (by decide) ?_
    obtain ⟨k9, hV⟩ := hV
    refine r_callV (ci := 6) (As := [.int 2]) hC dL_cases_25 rfl cf_X6_count ml_7_13 im_X6_count sl_X6_count lq_6 rfl rfl k9 rfl ⟨(Nat.le_of_ble_eq_true rfl), (Nat.le_of_ble_eq_true rfl), (Nat.le_of_ble_eq_true rfl), (Nat.le_of_ble_eq_true rfl)⟩ cs0 (Nat.le_of_ble_eq_true rfl) (con_X6_count a0 2 h2 _ hV) rfl (kI (k := 0) (n := 0) (fun r3 h3 hV => ?_))
    refine r_istore (lo1 := [some (rv a0), some (.int a1), some (.int a2), some (.int a3), some (.int r1), some (.int (1 + r2)), some (.int r3), none, none, none, none, none, none]) hC dL_cases_28 (Nat.le_of_ble_eq_true rfl) (pvI rfl) rfl ?_
    refine r_aload_n hC dL_cases_30 rfl ?_
    refine r_iload hC dL_cases_31 rfl ?_
    obtain ⟨k9, hV⟩ := hV
    refine r_callV (ci := 6) (As := [.int (1 + r2)]) hC dL_cases_33 rfl cf_X6_buy ml_7_58 im_X6_buy sl_X6_buy lq_6 rfl rfl k9 rfl ⟨(Nat.le_of_ble_eq_true rfl), (Nat.le_of_ble_eq_true rfl), (Nat.le_of_ble_eq_true rfl), (Nat.le_of_ble_eq_true rfl)⟩ cs0 (Nat.le_of_ble_eq_true rfl) (con_X6_buy a0 (1 + r2) h3 _ hV) rfl (kI (k := 4) (n := 226) (fun r4 h4 hV => ?_))
    refine r_iload hC dL_cases_36 rfl ?_
    refine r_iload hC dL_cases_38 rfl ?_
    refine r_iadd hC dL_cases_40 ?_
    refine r_ldc (v := 100000) hC dL_cases_41 kc_7_61 ?_
    refine r_icmp_le (tgt := 51) hC dL_cases_43 (by decide) (fun k9 => ?_) (fun k9 => ?_)
    · replace hV := hV.1 k9
      refine r_iload hC dL_cases_51 rfl ?_
      refine r_iload hC dL_cases_53 rfl ?_
      refine r_iadd hC dL_cases_55 ?_
      refine r_sub (lo1 := [some (rv a0), none, none, none, none, none, none, none, none, none, none, none, none]) ⟨Or.inr rfl, ⟨Or.inl rfl, ⟨Or.inl rfl, ⟨Or.inl rfl, ⟨Or.inl rfl, ⟨Or.inl rfl, ⟨Or.inl rfl, ⟨Or.inl rfl, ⟨Or.inl rfl, ⟨Or.inl rfl, ⟨Or.inl rfl, ⟨Or.inl rfl, ⟨Or.inl rfl, trivial⟩⟩⟩⟩⟩⟩⟩⟩⟩⟩⟩⟩⟩ ?_
      exact ok_L_cases_56 hC hQ a0 r4 (r3 + (1 + r2)) h4 hV
    · replace hV := hV.2 k9
      refine r_bipush (v := (-3)) hC dL_cases_46 (by decide) ?_
      refine r_goto (tgt := 56) hC dL_cases_48 (by decide) ?_
      refine r_sub (lo1 := [some (rv a0), none, none, none, none, none, none, none, none, none, none, none, none]) ⟨Or.inr rfl, ⟨Or.inl rfl, ⟨Or.inl rfl, ⟨Or.inl rfl, ⟨Or.inl rfl, ⟨Or.inl rfl, ⟨Or.inl rfl, ⟨Or.inl rfl, ⟨Or.inl rfl, ⟨Or.inl rfl, ⟨Or.inl rfl, ⟨Or.inl rfl, ⟨Or.inl rfl, trivial⟩⟩⟩⟩⟩⟩⟩⟩⟩⟩⟩⟩⟩ ?_
      exact ok_L_cases_56 hC hQ a0 r4 (-3) h4 hV
set_option maxRecDepth 100000 in
set_option maxHeartbeats 4000000 in
theorem con_L_cases {E : Ev} {l0 : Launch} (a0 : Nat) (a1 : Int32) (a2 : Int32) (a3 : Int32) (h : Hp) (K : Int32 → Hp → Prop) (hV : V_L_cases a0 a1 a2 a3 h K) : Con E l0 yL_cases cL_cases 13 (some .boolean) rm_L_cases [rv a0, .int a1, .int a2, .int a3] h (KI K) := by
  refine Con.of (by decide +kernel) (cat_R (cat_I (cat_I (cat_I cat_nil)))) (Nat.le_of_ble_eq_true rfl) (fun X hC hQ => ?_)
  refine r_sub (lo1 := [some (rv a0), some (.int a1), some (.int a2), some (.int a3), none, none, none, none, none, none, none, none, none]) (show lsub [some (rv a0), some (.int a1), some (.int a2), some (.int a3), none, none, none, none, none, none, none, none, none] _ from ⟨Or.inr rfl, ⟨Or.inr rfl, ⟨Or.inr rfl, ⟨Or.inr rfl, ⟨Or.inr rfl, ⟨Or.inr rfl, ⟨Or.inr rfl, ⟨Or.inr rfl, ⟨Or.inr rfl, ⟨Or.inr rfl, ⟨Or.inr rfl, ⟨Or.inr rfl, ⟨Or.inr rfl, trivial⟩⟩⟩⟩⟩⟩⟩⟩⟩⟩⟩⟩⟩) ?_
  exact ok_L_cases_0 hC hQ a0 a1 a2 a3 h hV
theorem dL_cell_0 : decode cL_cell 0 = .ok (.iload_n 1, 1) := by decide +kernel
theorem dL_cell_1 : decode cL_cell 1 = .ok (.aload_n 0, 1) := by decide +kernel
theorem dL_cell_2 : decode cL_cell 2 = .ok (.arraylength, 1) := by decide +kernel
theorem dL_cell_3 : decode cL_cell 3 = .ok (.if_icmp .ge 9, 3) := by decide +kernel
theorem dL_cell_6 : decode cL_cell 6 = .ok (.aload_n 0, 1) := by decide +kernel
theorem dL_cell_7 : decode cL_cell 7 = .ok (.iload_n 1, 1) := by decide +kernel
theorem dL_cell_8 : decode cL_cell 8 = .ok (.iaload, 1) := by decide +kernel
theorem dL_cell_9 : decode cL_cell 9 = .ok (.goto 11, 3) := by decide +kernel
theorem dL_cell_12 : decode cL_cell 12 = .ok (.ldc 7, 2) := by decide +kernel
theorem dL_cell_14 : decode cL_cell 14 = .ok (.iload_n 1, 1) := by decide +kernel
theorem dL_cell_15 : decode cL_cell 15 = .ok (.imul, 1) := by decide +kernel
theorem dL_cell_16 : decode cL_cell 16 = .ok (.sipush 1217, 3) := by decide +kernel
theorem dL_cell_19 : decode cL_cell 19 = .ok (.iadd, 1) := by decide +kernel
theorem dL_cell_20 : decode cL_cell 20 = .ok (.ireturn, 1) := by decide +kernel
def rm_L_cell : Room := { frames := 0, cells := 0, slots := 0, locals := 0 }
set_option maxRecDepth 100000 in
set_option maxHeartbeats 4000000 in
theorem ok_L_cell_20 {E : Ev} {X : Xt} {l0 : Launch} {K : Int32 → Hp → Prop} (hC : Cx E X l0 RL cL_cell 2 rm_L_cell) (hQ : CQ E X "cell" (some .int) rm_L_cell (KI K)) (s0 : Int32) (h : Hp) (hV : V_L_cell_20 K s0 h) : WW E X h 0 0 20 [none, none] [.int s0] := by
  unfold V_L_cell_20 at hV
  exact r_iret hC hQ dL_cell_20 (Nat.le_of_ble_eq_true rfl) (Nat.le_of_ble_eq_true rfl) ⟨_, rfl, hV⟩
set_option maxRecDepth 100000 in
set_option maxHeartbeats 4000000 in
theorem ok_L_cell_0 {E : Ev} {X : Xt} {l0 : Launch} {K : Int32 → Hp → Prop} (hC : Cx E X l0 RL cL_cell 2 rm_L_cell) (hQ : CQ E X "cell" (some .int) rm_L_cell (KI K)) (a1 : Int32) (h : Hp) (hV : V_L_cell a1 h K) : WW E X h 0 0 0 [some (rv (sb E)), some (.int a1)] [] := by
  unfold V_L_cell at hV
  refine r_iload_n hC dL_cell_0 rfl ?_
  refine r_aload_n hC dL_cell_1 rfl ?_
  refine r_slen hC dL_cell_2 ?_
  replace hV := hV (sL E)
  refine r_icmp_ge (tgt := 12) hC dL_cell_3 (by decide) (fun k9 => ?_) (fun k9 => ?_)
  · replace hV := hV.1 k9
    refine r_ldc (v := 2510003) hC dL_cell_12 kc_7_7 ?_
    refine r_iload_n hC dL_cell_14 rfl ?_
    refine r_imul hC dL_cell_15 ?_
    refine r_sipush (v := 1217) hC dL_cell_16 (by decide) ?_
    refine r_iadd hC dL_cell_19 ?_
    refine r_sub (lo1 := [none, none]) ⟨Or.inl rfl, ⟨Or.inl rfl, trivial⟩⟩ ?_
    exact ok_L_cell_20 hC hQ ((2510003 * a1) + 1217) h hV
  · replace hV := hV.2 k9
    refine r_aload_n hC dL_cell_6 rfl ?_
    refine r_iload_n hC dL_cell_7 rfl ?_
    obtain ⟨k9, hV⟩ := hV
    refine r_sld hC dL_cell_8 k9 ?_
    replace hV := hV (sX E (ix a1))
    generalize sX E (ix a1) = v1 at hV ⊢
    refine r_goto (tgt := 20) hC dL_cell_9 (by decide) ?_
    refine r_sub (lo1 := [none, none]) ⟨Or.inl rfl, ⟨Or.inl rfl, trivial⟩⟩ ?_
    exact ok_L_cell_20 hC hQ v1 h hV
set_option maxRecDepth 100000 in
set_option maxHeartbeats 4000000 in
theorem con_L_cell {E : Ev} {l0 : Launch} (a1 : Int32) (h : Hp) (K : Int32 → Hp → Prop) (hV : V_L_cell a1 h K) : Con E l0 yL_cell cL_cell 2 (some .int) rm_L_cell [rv (sb E), .int a1] h (KI K) := by
  refine Con.of (by decide +kernel) (cat_R (cat_I cat_nil)) (Nat.le_of_ble_eq_true rfl) (fun X hC hQ => ?_)
  refine r_sub (lo1 := [some (rv (sb E)), some (.int a1)]) (show lsub [some (rv (sb E)), some (.int a1)] _ from ⟨Or.inr rfl, ⟨Or.inr rfl, trivial⟩⟩) ?_
  exact ok_L_cell_0 hC hQ a1 h hV
theorem dL_digest_0 : decode cL_digest 0 = .ok (.ldc2_w 9, 3) := by decide +kernel
theorem dL_digest_3 : decode cL_digest 3 = .ok (.lstore_n 1, 1) := by decide +kernel
theorem dL_digest_4 : decode cL_digest 4 = .ok (.iconst 0, 1) := by decide +kernel
theorem dL_digest_5 : decode cL_digest 5 = .ok (.istore_n 3, 1) := by decide +kernel
theorem dL_digest_6 : decode cL_digest 6 = .ok (.iload_n 3, 1) := by decide +kernel
theorem dL_digest_7 : decode cL_digest 7 = .ok (.bipush 14, 2) := by decide +kernel
theorem dL_digest_9 : decode cL_digest 9 = .ok (.if_icmp .ge 22, 3) := by decide +kernel
theorem dL_digest_12 : decode cL_digest 12 = .ok (.ldc2_w 11, 3) := by decide +kernel
theorem dL_digest_15 : decode cL_digest 15 = .ok (.lload_n 1, 1) := by decide +kernel
theorem dL_digest_16 : decode cL_digest 16 = .ok (.lmul, 1) := by decide +kernel
theorem dL_digest_17 : decode cL_digest 17 = .ok (.aload_n 0, 1) := by decide +kernel
theorem dL_digest_18 : decode cL_digest 18 = .ok (.iload_n 3, 1) := by decide +kernel
theorem dL_digest_19 : decode cL_digest 19 = .ok (.invokevirtual 13, 3) := by decide +kernel
theorem dL_digest_22 : decode cL_digest 22 = .ok (.i2l, 1) := by decide +kernel
theorem dL_digest_23 : decode cL_digest 23 = .ok (.ladd, 1) := by decide +kernel
theorem dL_digest_24 : decode cL_digest 24 = .ok (.lstore_n 1, 1) := by decide +kernel
theorem dL_digest_25 : decode cL_digest 25 = .ok (.iinc 3 1, 3) := by decide +kernel
theorem dL_digest_28 : decode cL_digest 28 = .ok (.goto (-22), 3) := by decide +kernel
theorem dL_digest_31 : decode cL_digest 31 = .ok (.iconst (-1), 1) := by decide +kernel
theorem dL_digest_32 : decode cL_digest 32 = .ok (.istore_n 3, 1) := by decide +kernel
theorem dL_digest_33 : decode cL_digest 33 = .ok (.iload_n 3, 1) := by decide +kernel
theorem dL_digest_34 : decode cL_digest 34 = .ok (.aload_n 0, 1) := by decide +kernel
theorem dL_digest_35 : decode cL_digest 35 = .ok (.iconst 0, 1) := by decide +kernel
theorem dL_digest_36 : decode cL_digest 36 = .ok (.invokevirtual 13, 3) := by decide +kernel
theorem dL_digest_39 : decode cL_digest 39 = .ok (.if_icmp .ge 40, 3) := by decide +kernel
theorem dL_digest_42 : decode cL_digest 42 = .ok (.iconst 0, 1) := by decide +kernel
theorem dL_digest_43 : decode cL_digest 43 = .ok (.istore 4, 2) := by decide +kernel
theorem dL_digest_45 : decode cL_digest 45 = .ok (.iload 4, 2) := by decide +kernel
theorem dL_digest_47 : decode cL_digest 47 = .ok (.bipush 29, 2) := by decide +kernel
theorem dL_digest_49 : decode cL_digest 49 = .ok (.if_icmp .ge 24, 3) := by decide +kernel
theorem dL_digest_52 : decode cL_digest 52 = .ok (.ldc2_w 11, 3) := by decide +kernel
theorem dL_digest_55 : decode cL_digest 55 = .ok (.lload_n 1, 1) := by decide +kernel
theorem dL_digest_56 : decode cL_digest 56 = .ok (.lmul, 1) := by decide +kernel
theorem dL_digest_57 : decode cL_digest 57 = .ok (.aload_n 0, 1) := by decide +kernel
theorem dL_digest_58 : decode cL_digest 58 = .ok (.iload_n 3, 1) := by decide +kernel
theorem dL_digest_59 : decode cL_digest 59 = .ok (.iload 4, 2) := by decide +kernel
theorem dL_digest_61 : decode cL_digest 61 = .ok (.invokevirtual 19, 3) := by decide +kernel
theorem dL_digest_64 : decode cL_digest 64 = .ok (.i2l, 1) := by decide +kernel
theorem dL_digest_65 : decode cL_digest 65 = .ok (.ladd, 1) := by decide +kernel
theorem dL_digest_66 : decode cL_digest 66 = .ok (.lstore_n 1, 1) := by decide +kernel
theorem dL_digest_67 : decode cL_digest 67 = .ok (.iinc 4 1, 3) := by decide +kernel
theorem dL_digest_70 : decode cL_digest 70 = .ok (.goto (-25), 3) := by decide +kernel
theorem dL_digest_73 : decode cL_digest 73 = .ok (.iinc 3 1, 3) := by decide +kernel
theorem dL_digest_76 : decode cL_digest 76 = .ok (.goto (-43), 3) := by decide +kernel
theorem dL_digest_79 : decode cL_digest 79 = .ok (.iconst 0, 1) := by decide +kernel
theorem dL_digest_80 : decode cL_digest 80 = .ok (.istore_n 3, 1) := by decide +kernel
theorem dL_digest_81 : decode cL_digest 81 = .ok (.iload_n 3, 1) := by decide +kernel
theorem dL_digest_82 : decode cL_digest 82 = .ok (.aload_n 0, 1) := by decide +kernel
theorem dL_digest_83 : decode cL_digest 83 = .ok (.iconst 1, 1) := by decide +kernel
theorem dL_digest_84 : decode cL_digest 84 = .ok (.invokevirtual 13, 3) := by decide +kernel
theorem dL_digest_87 : decode cL_digest 87 = .ok (.if_icmp .ge 40, 3) := by decide +kernel
theorem dL_digest_90 : decode cL_digest 90 = .ok (.iconst 0, 1) := by decide +kernel
theorem dL_digest_91 : decode cL_digest 91 = .ok (.istore 4, 2) := by decide +kernel
theorem dL_digest_93 : decode cL_digest 93 = .ok (.iload 4, 2) := by decide +kernel
theorem dL_digest_95 : decode cL_digest 95 = .ok (.bipush 11, 2) := by decide +kernel
theorem dL_digest_97 : decode cL_digest 97 = .ok (.if_icmp .ge 24, 3) := by decide +kernel
theorem dL_digest_100 : decode cL_digest 100 = .ok (.ldc2_w 11, 3) := by decide +kernel
theorem dL_digest_103 : decode cL_digest 103 = .ok (.lload_n 1, 1) := by decide +kernel
theorem dL_digest_104 : decode cL_digest 104 = .ok (.lmul, 1) := by decide +kernel
theorem dL_digest_105 : decode cL_digest 105 = .ok (.aload_n 0, 1) := by decide +kernel
theorem dL_digest_106 : decode cL_digest 106 = .ok (.iload_n 3, 1) := by decide +kernel
theorem dL_digest_107 : decode cL_digest 107 = .ok (.iload 4, 2) := by decide +kernel
theorem dL_digest_109 : decode cL_digest 109 = .ok (.invokevirtual 23, 3) := by decide +kernel
theorem dL_digest_112 : decode cL_digest 112 = .ok (.i2l, 1) := by decide +kernel
theorem dL_digest_113 : decode cL_digest 113 = .ok (.ladd, 1) := by decide +kernel
theorem dL_digest_114 : decode cL_digest 114 = .ok (.lstore_n 1, 1) := by decide +kernel
theorem dL_digest_115 : decode cL_digest 115 = .ok (.iinc 4 1, 3) := by decide +kernel
theorem dL_digest_118 : decode cL_digest 118 = .ok (.goto (-25), 3) := by decide +kernel
theorem dL_digest_121 : decode cL_digest 121 = .ok (.iinc 3 1, 3) := by decide +kernel
theorem dL_digest_124 : decode cL_digest 124 = .ok (.goto (-43), 3) := by decide +kernel
theorem dL_digest_127 : decode cL_digest 127 = .ok (.lload_n 1, 1) := by decide +kernel
theorem dL_digest_128 : decode cL_digest 128 = .ok (.lreturn, 1) := by decide +kernel
def rm_L_digest : Room := { frames := 6, cells := 0, slots := 0, locals := 133 }
set_option maxRecDepth 100000 in
set_option maxHeartbeats 4000000 in
theorem ok_L_digest_45 {E : Ev} {X : Xt} {l0 : Launch} {K : Int64 → Hp → Prop} {C33 : Nat → Int64 → Int32 → Hp → Prop} (hC : Cx E X l0 RL cL_digest 5 rm_L_digest) (hQ : CQ E X "digest" (some .long) rm_L_digest (KJ K)) (hC33 : ∀ (a0 : Nat) (a1 : Int64) (a3 : Int32) (h : Hp), C33 a0 a1 a3 h → WW E X h 0 0 33 [some (rv a0), some (.long a1), none, some (.int a3), none] []) : ∀ (n : Nat) (a0 : Nat) (a1 : Int64) (a3 : Int32) (a4 : Int32) (h : Hp), V_L_digest_45 K C33 n a0 a1 a3 a4 h → WW E X h 0 0 45 [some (rv a0), some (.long a1), none, some (.int a3), some (.int a4)] [] := by
  intro n
  induction n with
  | zero => intro a0 a1 a3 a4 h hV; exact hV.elim
  | succ n ih =>
    intro a0 a1 a3 a4 h hV
    unfold V_L_digest_45 at hV
    refine r_iload hC dL_digest_45 rfl ?_
    refine r_bipush (v := 29) hC dL_digest_47 (by decide) ?_
    refine r_icmp_ge (tgt := 73) hC dL_digest_49 (by decide) (fun k9 => ?_) (fun k9 => ?_)
    · replace hV := hV.1 k9
      refine r_iinc (v := 1) (lo1 := [some (rv a0), some (.long a1), none, some (.int (a3 + 1)), some (.int a4)]) hC dL_digest_73 rfl (by decide) (pvN rfl) rfl ?_
      refine r_goto (tgt := 33) hC dL_digest_76 (by decide) ?_
      refine r_sub (lo1 := [some (rv a0), some (.long a1), none, some (.int (a3 + 1)), none]) ⟨Or.inr rfl, ⟨Or.inr rfl, ⟨Or.inl rfl, ⟨Or.inr rfl, ⟨Or.inl rfl, trivial⟩⟩⟩⟩⟩ ?_
      exact hC33 a0 a1 (a3 + 1) h hV
    · replace hV := hV.2 k9
      refine r_ldc2 (v := 31) hC dL_digest_52 kd_11 ?_
      refine r_lload_n hC dL_digest_55 rfl ?_
      refine r_lmul hC dL_digest_56 ?_
      refine r_aload_n hC dL_digest_57 rfl ?_
      refine r_iload_n hC dL_digest_58 rfl ?_
      refine r_iload hC dL_digest_59 rfl ?_
      obtain ⟨k9, hV⟩ := hV
      refine r_callV (ci := 6) (As := [.int a3, .int a4]) hC dL_digest_61 rfl cf_X6_pieces ml_7_19 im_X6_pieces sl_X6_pieces lq_6 rfl rfl k9 rfl ⟨(Nat.le_of_ble_eq_true rfl), (Nat.le_of_ble_eq_true rfl), (Nat.le_of_ble_eq_true rfl), (Nat.le_of_ble_eq_true rfl)⟩ (csJ cs0) (Nat.le_of_ble_eq_true rfl) (con_X6_pieces a0 a3 a4 h _ hV) rfl (kI (k := 0) (n := 0) (fun r1 h1 hV => ?_))
      refine r_i2l hC dL_digest_64 ?_
      refine r_ladd hC dL_digest_65 ?_
      refine r_lstore_n (ii := 1) (lo1 := [some (rv a0), some (.long ((31 * a1) + (r1.toInt64))), none, some (.int a3), some (.int a4)]) hC dL_digest_66 rfl (Nat.le_of_ble_eq_true rfl) (pvR rfl) rfl ?_
      refine r_iinc (v := 1) (lo1 := [some (rv a0), some (.long ((31 * a1) + (r1.toInt64))), none, some (.int a3), some (.int (a4 + 1))]) hC dL_digest_67 rfl (by decide) (pvI rfl) rfl ?_
      refine r_goto (tgt := 45) hC dL_digest_70 (by decide) ?_
      exact ih a0 ((31 * a1) + (r1.toInt64)) a3 (a4 + 1) h1 hV
set_option maxRecDepth 100000 in
set_option maxHeartbeats 4000000 in
theorem ok_L_digest_93 {E : Ev} {X : Xt} {l0 : Launch} {K : Int64 → Hp → Prop} {C81 : Nat → Int64 → Int32 → Hp → Prop} (hC : Cx E X l0 RL cL_digest 5 rm_L_digest) (hQ : CQ E X "digest" (some .long) rm_L_digest (KJ K)) (hC81 : ∀ (a0 : Nat) (a1 : Int64) (a3 : Int32) (h : Hp), C81 a0 a1 a3 h → WW E X h 0 0 81 [some (rv a0), some (.long a1), none, some (.int a3), none] []) : ∀ (n : Nat) (a0 : Nat) (a1 : Int64) (a3 : Int32) (a4 : Int32) (h : Hp), V_L_digest_93 K C81 n a0 a1 a3 a4 h → WW E X h 0 0 93 [some (rv a0), some (.long a1), none, some (.int a3), some (.int a4)] [] := by
  intro n
  induction n with
  | zero => intro a0 a1 a3 a4 h hV; exact hV.elim
  | succ n ih =>
    intro a0 a1 a3 a4 h hV
    unfold V_L_digest_93 at hV
    refine r_iload hC dL_digest_93 rfl ?_
    refine r_bipush (v := 11) hC dL_digest_95 (by decide) ?_
    refine r_icmp_ge (tgt := 121) hC dL_digest_97 (by decide) (fun k9 => ?_) (fun k9 => ?_)
    · replace hV := hV.1 k9
      refine r_iinc (v := 1) (lo1 := [some (rv a0), some (.long a1), none, some (.int (a3 + 1)), some (.int a4)]) hC dL_digest_121 rfl (by decide) (pvN rfl) rfl ?_
      refine r_goto (tgt := 81) hC dL_digest_124 (by decide) ?_
      refine r_sub (lo1 := [some (rv a0), some (.long a1), none, some (.int (a3 + 1)), none]) ⟨Or.inr rfl, ⟨Or.inr rfl, ⟨Or.inl rfl, ⟨Or.inr rfl, ⟨Or.inl rfl, trivial⟩⟩⟩⟩⟩ ?_
      exact hC81 a0 a1 (a3 + 1) h hV
    · replace hV := hV.2 k9
      refine r_ldc2 (v := 31) hC dL_digest_100 kd_11 ?_
      refine r_lload_n hC dL_digest_103 rfl ?_
      refine r_lmul hC dL_digest_104 ?_
      refine r_aload_n hC dL_digest_105 rfl ?_
      refine r_iload_n hC dL_digest_106 rfl ?_
      refine r_iload hC dL_digest_107 rfl ?_
      obtain ⟨k9, hV⟩ := hV
      refine r_callV (ci := 6) (As := [.int a3, .int a4]) hC dL_digest_109 rfl cf_X6_job ml_7_23 im_X6_job sl_X6_job lq_6 rfl rfl k9 rfl ⟨(Nat.le_of_ble_eq_true rfl), (Nat.le_of_ble_eq_true rfl), (Nat.le_of_ble_eq_true rfl), (Nat.le_of_ble_eq_true rfl)⟩ (csJ cs0) (Nat.le_of_ble_eq_true rfl) (con_X6_job a0 a3 a4 h _ hV) rfl (kI (k := 0) (n := 0) (fun r1 h1 hV => ?_))
      refine r_i2l hC dL_digest_112 ?_
      refine r_ladd hC dL_digest_113 ?_
      refine r_lstore_n (ii := 1) (lo1 := [some (rv a0), some (.long ((31 * a1) + (r1.toInt64))), none, some (.int a3), some (.int a4)]) hC dL_digest_114 rfl (Nat.le_of_ble_eq_true rfl) (pvR rfl) rfl ?_
      refine r_iinc (v := 1) (lo1 := [some (rv a0), some (.long ((31 * a1) + (r1.toInt64))), none, some (.int a3), some (.int (a4 + 1))]) hC dL_digest_115 rfl (by decide) (pvI rfl) rfl ?_
      refine r_goto (tgt := 93) hC dL_digest_118 (by decide) ?_
      exact ih a0 ((31 * a1) + (r1.toInt64)) a3 (a4 + 1) h1 hV
set_option maxRecDepth 100000 in
set_option maxHeartbeats 4000000 in
theorem ok_L_digest_81 {E : Ev} {X : Xt} {l0 : Launch} {K : Int64 → Hp → Prop} (hC : Cx E X l0 RL cL_digest 5 rm_L_digest) (hQ : CQ E X "digest" (some .long) rm_L_digest (KJ K)) : ∀ (n : Nat) (a0 : Nat) (a1 : Int64) (a3 : Int32) (h : Hp), V_L_digest_81 K n a0 a1 a3 h → WW E X h 0 0 81 [some (rv a0), some (.long a1), none, some (.int a3), none] [] := by
  intro n
  induction n with
  | zero => intro a0 a1 a3 h hV; exact hV.elim
  | succ n ih =>
    intro a0 a1 a3 h hV
    unfold V_L_digest_81 at hV
    refine r_iload_n hC dL_digest_81 rfl ?_
    refine r_aload_n hC dL_digest_82 rfl ?_
    refine r_iconst (v := 1) hC dL_digest_83 (by decide) ?_
    obtain ⟨k9, hV⟩ := hV
    refine r_callV (ci := 6) (As := [.int 1]) hC dL_digest_84 rfl cf_X6_count ml_7_13 im_X6_count sl_X6_count lq_6 rfl rfl k9 rfl ⟨(Nat.le_of_ble_eq_true rfl), (Nat.le_of_ble_eq_true rfl), (Nat.le_of_ble_eq_true rfl), (Nat.le_of_ble_eq_true rfl)⟩ (csI cs0) (Nat.le_of_ble_eq_true rfl) (con_X6_count a0 1 h _ hV) rfl (kI (k := 0) (n := 0) (fun r1 h1 hV => ?_))
    refine r_icmp_ge (tgt := 127) hC dL_digest_87 (by decide) (fun k9 => ?_) (fun k9 => ?_)
    · replace hV := hV.1 k9
      refine r_lload_n hC dL_digest_127 rfl ?_
      exact r_jret hC hQ dL_digest_128 (Nat.le_of_ble_eq_true rfl) (Nat.le_of_ble_eq_true rfl) ⟨_, rfl, hV⟩
    · replace hV := hV.2 k9
      refine r_iconst (v := 0) hC dL_digest_90 (by decide) ?_
      refine r_istore (lo1 := [some (rv a0), some (.long a1), none, some (.int a3), some (.int 0)]) hC dL_digest_91 (Nat.le_of_ble_eq_true rfl) (pvI rfl) rfl ?_
      obtain ⟨n9, hV⟩ := hV
      exact ok_L_digest_93 hC hQ ih n9 a0 a1 a3 0 h1 hV
set_option maxRecDepth 100000 in
set_option maxHeartbeats 4000000 in
theorem ok_L_digest_33 {E : Ev} {X : Xt} {l0 : Launch} {K : Int64 → Hp → Prop} (hC : Cx E X l0 RL cL_digest 5 rm_L_digest) (hQ : CQ E X "digest" (some .long) rm_L_digest (KJ K)) : ∀ (n : Nat) (a0 : Nat) (a1 : Int64) (a3 : Int32) (h : Hp), V_L_digest_33 K n a0 a1 a3 h → WW E X h 0 0 33 [some (rv a0), some (.long a1), none, some (.int a3), none] [] := by
  intro n
  induction n with
  | zero => intro a0 a1 a3 h hV; exact hV.elim
  | succ n ih =>
    intro a0 a1 a3 h hV
    unfold V_L_digest_33 at hV
    refine r_iload_n hC dL_digest_33 rfl ?_
    refine r_aload_n hC dL_digest_34 rfl ?_
    refine r_iconst (v := 0) hC dL_digest_35 (by decide) ?_
    obtain ⟨k9, hV⟩ := hV
    refine r_callV (ci := 6) (As := [.int 0]) hC dL_digest_36 rfl cf_X6_count ml_7_13 im_X6_count sl_X6_count lq_6 rfl rfl k9 rfl ⟨(Nat.le_of_ble_eq_true rfl), (Nat.le_of_ble_eq_true rfl), (Nat.le_of_ble_eq_true rfl), (Nat.le_of_ble_eq_true rfl)⟩ (csI cs0) (Nat.le_of_ble_eq_true rfl) (con_X6_count a0 0 h _ hV) rfl (kI (k := 0) (n := 0) (fun r1 h1 hV => ?_))
    refine r_icmp_ge (tgt := 79) hC dL_digest_39 (by decide) (fun k9 => ?_) (fun k9 => ?_)
    · replace hV := hV.1 k9
      refine r_iconst (v := 0) hC dL_digest_79 (by decide) ?_
      refine r_istore_n (ii := 3) (lo1 := [some (rv a0), some (.long a1), none, some (.int 0), none]) hC dL_digest_80 rfl (Nat.le_of_ble_eq_true rfl) (pvN rfl) rfl ?_
      obtain ⟨n9, hV⟩ := hV
      exact ok_L_digest_81 hC hQ n9 a0 a1 0 h1 hV
    · replace hV := hV.2 k9
      refine r_iconst (v := 0) hC dL_digest_42 (by decide) ?_
      refine r_istore (lo1 := [some (rv a0), some (.long a1), none, some (.int a3), some (.int 0)]) hC dL_digest_43 (Nat.le_of_ble_eq_true rfl) (pvI rfl) rfl ?_
      obtain ⟨n9, hV⟩ := hV
      exact ok_L_digest_45 hC hQ ih n9 a0 a1 a3 0 h1 hV
set_option maxRecDepth 100000 in
set_option maxHeartbeats 4000000 in
theorem ok_L_digest_6 {E : Ev} {X : Xt} {l0 : Launch} {K : Int64 → Hp → Prop} (hC : Cx E X l0 RL cL_digest 5 rm_L_digest) (hQ : CQ E X "digest" (some .long) rm_L_digest (KJ K)) : ∀ (n : Nat) (a0 : Nat) (a1 : Int64) (a3 : Int32) (h : Hp), V_L_digest_6 K n a0 a1 a3 h → WW E X h 0 0 6 [some (rv a0), some (.long a1), none, some (.int a3), none] [] := by
  intro n
  induction n with
  | zero => intro a0 a1 a3 h hV; exact hV.elim
  | succ n ih =>
    intro a0 a1 a3 h hV
    unfold V_L_digest_6 at hV
    refine r_iload_n hC dL_digest_6 rfl ?_
    refine r_bipush (v := 14) hC dL_digest_7 (by decide) ?_
    refine r_icmp_ge (tgt := 31) hC dL_digest_9 (by decide) (fun k9 => ?_) (fun k9 => ?_)
    · replace hV := hV.1 k9
      refine r_iconst (v := (-1)) hC dL_digest_31 (by decide) ?_
      refine r_istore_n (ii := 3) (lo1 := [some (rv a0), some (.long a1), none, some (.int (-1)), none]) hC dL_digest_32 rfl (Nat.le_of_ble_eq_true rfl) (pvN rfl) rfl ?_
      obtain ⟨n9, hV⟩ := hV
      exact ok_L_digest_33 hC hQ n9 a0 a1 (-1) h hV
    · replace hV := hV.2 k9
      refine r_ldc2 (v := 31) hC dL_digest_12 kd_11 ?_
      refine r_lload_n hC dL_digest_15 rfl ?_
      refine r_lmul hC dL_digest_16 ?_
      refine r_aload_n hC dL_digest_17 rfl ?_
      refine r_iload_n hC dL_digest_18 rfl ?_
      obtain ⟨k9, hV⟩ := hV
      refine r_callV (ci := 6) (As := [.int a3]) hC dL_digest_19 rfl cf_X6_count ml_7_13 im_X6_count sl_X6_count lq_6 rfl rfl k9 rfl ⟨(Nat.le_of_ble_eq_true rfl), (Nat.le_of_ble_eq_true rfl), (Nat.le_of_ble_eq_true rfl), (Nat.le_of_ble_eq_true rfl)⟩ (csJ cs0) (Nat.le_of_ble_eq_true rfl) (con_X6_count a0 a3 h _ hV) rfl (kI (k := 0) (n := 0) (fun r1 h1 hV => ?_))
      refine r_i2l hC dL_digest_22 ?_
      refine r_ladd hC dL_digest_23 ?_
      refine r_lstore_n (ii := 1) (lo1 := [some (rv a0), some (.long ((31 * a1) + (r1.toInt64))), none, some (.int a3), none]) hC dL_digest_24 rfl (Nat.le_of_ble_eq_true rfl) (pvR rfl) rfl ?_
      refine r_iinc (v := 1) (lo1 := [some (rv a0), some (.long ((31 * a1) + (r1.toInt64))), none, some (.int (a3 + 1)), none]) hC dL_digest_25 rfl (by decide) (pvN rfl) rfl ?_
      refine r_goto (tgt := 6) hC dL_digest_28 (by decide) ?_
      exact ih a0 ((31 * a1) + (r1.toInt64)) (a3 + 1) h1 hV
set_option maxRecDepth 100000 in
set_option maxHeartbeats 4000000 in
theorem ok_L_digest_0 {E : Ev} {X : Xt} {l0 : Launch} {K : Int64 → Hp → Prop} (hC : Cx E X l0 RL cL_digest 5 rm_L_digest) (hQ : CQ E X "digest" (some .long) rm_L_digest (KJ K)) (a0 : Nat) (h : Hp) (hV : V_L_digest a0 h K) : WW E X h 0 0 0 [some (rv a0), none, none, none, none] [] := by
  unfold V_L_digest at hV
  refine r_ldc2 (v := 73) hC dL_digest_0 kd_9 ?_
  refine r_lstore_n (ii := 1) (lo1 := [some (rv a0), some (.long 73), none, none, none]) hC dL_digest_3 rfl (Nat.le_of_ble_eq_true rfl) (pvR rfl) rfl ?_
  refine r_iconst (v := 0) hC dL_digest_4 (by decide) ?_
  refine r_istore_n (ii := 3) (lo1 := [some (rv a0), some (.long 73), none, some (.int 0), none]) hC dL_digest_5 rfl (Nat.le_of_ble_eq_true rfl) (pvN rfl) rfl ?_
  obtain ⟨n9, hV⟩ := hV
  exact ok_L_digest_6 hC hQ n9 a0 73 0 h hV
set_option maxRecDepth 100000 in
set_option maxHeartbeats 4000000 in
theorem con_L_digest {E : Ev} {l0 : Launch} (a0 : Nat) (h : Hp) (K : Int64 → Hp → Prop) (hV : V_L_digest a0 h K) : Con E l0 yL_digest cL_digest 5 (some .long) rm_L_digest [rv a0] h (KJ K) := by
  refine Con.of (by decide +kernel) (cat_R cat_nil) (Nat.le_of_ble_eq_true rfl) (fun X hC hQ => ?_)
  refine r_sub (lo1 := [some (rv a0), none, none, none, none]) (show lsub [some (rv a0), none, none, none, none] _ from ⟨Or.inr rfl, ⟨Or.inr rfl, ⟨Or.inr rfl, ⟨Or.inr rfl, ⟨Or.inr rfl, trivial⟩⟩⟩⟩⟩) ?_
  exact ok_L_digest_0 hC hQ a0 h hV
theorem dL_types_0 : decode cL_types 0 = .ok (.iconst 1, 1) := by decide +kernel
theorem dL_types_1 : decode cL_types 1 = .ok (.iload_n 1, 1) := by decide +kernel
theorem dL_types_2 : decode cL_types 2 = .ok (.bipush 14, 2) := by decide +kernel
theorem dL_types_4 : decode cL_types 4 = .ok (.invokestatic 48, 3) := by decide +kernel
theorem dL_types_7 : decode cL_types 7 = .ok (.iadd, 1) := by decide +kernel
theorem dL_types_8 : decode cL_types 8 = .ok (.istore_n 3, 1) := by decide +kernel
theorem dL_types_9 : decode cL_types 9 = .ok (.aload_n 0, 1) := by decide +kernel
theorem dL_types_10 : decode cL_types 10 = .ok (.invokevirtual 51, 3) := by decide +kernel
theorem dL_types_13 : decode cL_types 13 = .ok (.istore 4, 2) := by decide +kernel
theorem dL_types_15 : decode cL_types 15 = .ok (.iconst 0, 1) := by decide +kernel
theorem dL_types_16 : decode cL_types 16 = .ok (.istore 5, 2) := by decide +kernel
theorem dL_types_18 : decode cL_types 18 = .ok (.iconst 0, 1) := by decide +kernel
theorem dL_types_19 : decode cL_types 19 = .ok (.istore 6, 2) := by decide +kernel
theorem dL_types_21 : decode cL_types 21 = .ok (.iload 6, 2) := by decide +kernel
theorem dL_types_23 : decode cL_types 23 = .ok (.iload_n 3, 1) := by decide +kernel
theorem dL_types_24 : decode cL_types 24 = .ok (.if_icmp .ge 78, 3) := by decide +kernel
theorem dL_types_27 : decode cL_types 27 = .ok (.iload_n 1, 1) := by decide +kernel
theorem dL_types_28 : decode cL_types 28 = .ok (.iload 6, 2) := by decide +kernel
theorem dL_types_30 : decode cL_types 30 = .ok (.ishr, 1) := by decide +kernel
theorem dL_types_31 : decode cL_types 31 = .ok (.iload_n 2, 1) := by decide +kernel
theorem dL_types_32 : decode cL_types 32 = .ok (.iconst 2, 1) := by decide +kernel
theorem dL_types_33 : decode cL_types 33 = .ok (.iload 6, 2) := by decide +kernel
theorem dL_types_35 : decode cL_types 35 = .ok (.imul, 1) := by decide +kernel
theorem dL_types_36 : decode cL_types 36 = .ok (.ishr, 1) := by decide +kernel
theorem dL_types_37 : decode cL_types 37 = .ok (.ixor, 1) := by decide +kernel
theorem dL_types_38 : decode cL_types 38 = .ok (.iconst 3, 1) := by decide +kernel
theorem dL_types_39 : decode cL_types 39 = .ok (.iand, 1) := by decide +kernel
theorem dL_types_40 : decode cL_types 40 = .ok (.istore 7, 2) := by decide +kernel
theorem dL_types_42 : decode cL_types 42 = .ok (.iload 5, 2) := by decide +kernel
theorem dL_types_44 : decode cL_types 44 = .ok (.ifCond .eq 30, 3) := by decide +kernel
theorem dL_types_47 : decode cL_types 47 = .ok (.iload 7, 2) := by decide +kernel
theorem dL_types_49 : decode cL_types 49 = .ok (.ifCond .ne 25, 3) := by decide +kernel
theorem dL_types_52 : decode cL_types 52 = .ok (.aload_n 0, 1) := by decide +kernel
theorem dL_types_53 : decode cL_types 53 = .ok (.iload_n 2, 1) := by decide +kernel
theorem dL_types_54 : decode cL_types 54 = .ok (.iload 6, 2) := by decide +kernel
theorem dL_types_56 : decode cL_types 56 = .ok (.ishr, 1) := by decide +kernel
theorem dL_types_57 : decode cL_types 57 = .ok (.iconst 3, 1) := by decide +kernel
theorem dL_types_58 : decode cL_types 58 = .ok (.iand, 1) := by decide +kernel
theorem dL_types_59 : decode cL_types 59 = .ok (.ifCond .ne 8, 3) := by decide +kernel
theorem dL_types_62 : decode cL_types 62 = .ok (.bipush 47, 2) := by decide +kernel
theorem dL_types_64 : decode cL_types 64 = .ok (.goto 5, 3) := by decide +kernel
theorem dL_types_67 : decode cL_types 67 = .ok (.bipush 32, 2) := by decide +kernel
theorem dL_types_69 : decode cL_types 69 = .ok (.invokevirtual 54, 3) := by decide +kernel
theorem dL_types_72 : decode cL_types 72 = .ok (.istore 4, 2) := by decide +kernel
theorem dL_types_74 : decode cL_types 74 = .ok (.aload_n 0, 1) := by decide +kernel
theorem dL_types_75 : decode cL_types 75 = .ok (.bipush 97, 2) := by decide +kernel
theorem dL_types_77 : decode cL_types 77 = .ok (.iload_n 2, 1) := by decide +kernel
theorem dL_types_78 : decode cL_types 78 = .ok (.iload 6, 2) := by decide +kernel
theorem dL_types_80 : decode cL_types 80 = .ok (.ishr, 1) := by decide +kernel
theorem dL_types_81 : decode cL_types 81 = .ok (.bipush 6, 2) := by decide +kernel
theorem dL_types_83 : decode cL_types 83 = .ok (.invokestatic 48, 3) := by decide +kernel
theorem dL_types_86 : decode cL_types 86 = .ok (.iadd, 1) := by decide +kernel
theorem dL_types_87 : decode cL_types 87 = .ok (.i2c, 1) := by decide +kernel
theorem dL_types_88 : decode cL_types 88 = .ok (.invokevirtual 54, 3) := by decide +kernel
theorem dL_types_91 : decode cL_types 91 = .ok (.istore 4, 2) := by decide +kernel
theorem dL_types_93 : decode cL_types 93 = .ok (.iconst 1, 1) := by decide +kernel
theorem dL_types_94 : decode cL_types 94 = .ok (.istore 5, 2) := by decide +kernel
theorem dL_types_96 : decode cL_types 96 = .ok (.iinc 6 1, 3) := by decide +kernel
theorem dL_types_99 : decode cL_types 99 = .ok (.goto (-78), 3) := by decide +kernel
theorem dL_types_102 : decode cL_types 102 = .ok (.return_, 1) := by decide +kernel
def rm_L_types : Room := { frames := 2, cells := 0, slots := 0, locals := 42 }
set_option maxRecDepth 100000 in
set_option maxHeartbeats 4000000 in
theorem ok_L_types_74 {E : Ev} {X : Xt} {l0 : Launch} {K : Hp → Prop} {C21 : Nat → Int32 → Int32 → Int32 → Int32 → Int32 → Hp → Prop} (hC : Cx E X l0 RL cL_types 8 rm_L_types) (hQ : CQ E X "types" none rm_L_types (KV K)) (hC21 : ∀ (a0 : Nat) (a1 : Int32) (a2 : Int32) (a3 : Int32) (a5 : Int32) (a6 : Int32) (h : Hp), C21 a0 a1 a2 a3 a5 a6 h → WW E X h 0 0 21 [some (rv a0), some (.int a1), some (.int a2), some (.int a3), none, some (.int a5), some (.int a6), none] []) (a0 : Nat) (a1 : Int32) (a2 : Int32) (a3 : Int32) (a6 : Int32) (h : Hp) (hV : V_L_types_74 K C21 a0 a1 a2 a3 a6 h) : WW E X h 0 0 74 [some (rv a0), some (.int a1), some (.int a2), some (.int a3), none, none, some (.int a6), none] [] := by
  unfold V_L_types_74 at hV
  refine r_aload_n hC dL_types_74 rfl ?_
  refine r_bipush (v := 97) hC dL_types_75 (by decide) ?_
  refine r_iload_n hC dL_types_77 rfl ?_
  refine r_iload hC dL_types_78 rfl ?_
  refine r_ishr hC dL_types_80 ?_
  refine r_bipush (v := 6) hC dL_types_81 (by decide) ?_
  refine r_callS (As := [.int (a2 >>> (a6 &&& 31)), .int 6]) hC dL_types_83 rfl cf_L_low ml_7_48 st_L_low rfl ⟨(Nat.le_of_ble_eq_true rfl), (Nat.le_of_ble_eq_true rfl), (Nat.le_of_ble_eq_true rfl), (Nat.le_of_ble_eq_true rfl)⟩ (csI (csR cs0)) (Nat.le_of_ble_eq_true rfl) (con_L_low (a2 >>> (a6 &&& 31)) 6 h _ hV) rfl (kI (k := 0) (n := 0) (fun r1 h1 hV => ?_))
  refine r_iadd hC dL_types_86 ?_
  refine r_i2c hC dL_types_87 ?_
  obtain ⟨k9, hV⟩ := hV
  refine r_callV (ci := 6) (As := [.int (cn (97 + r1))]) hC dL_types_88 rfl cf_X6_type ml_7_54 im_X6_type sl_X6_type lq_6 rfl rfl k9 rfl ⟨(Nat.le_of_ble_eq_true rfl), (Nat.le_of_ble_eq_true rfl), (Nat.le_of_ble_eq_true rfl), (Nat.le_of_ble_eq_true rfl)⟩ cs0 (Nat.le_of_ble_eq_true rfl) (con_X6_type a0 (cn (97 + r1)) h1 _ hV) rfl (kI (k := 0) (n := 0) (fun r2 h2 hV => ?_))
  refine r_istore (lo1 := [some (rv a0), some (.int a1), some (.int a2), some (.int a3), some (.int r2), none, some (.int a6), none]) hC dL_types_91 (Nat.le_of_ble_eq_true rfl) (pvI rfl) rfl ?_
  refine r_iconst (v := 1) hC dL_types_93 (by decide) ?_
  refine r_istore (lo1 := [some (rv a0), some (.int a1), some (.int a2), some (.int a3), some (.int r2), some (.int 1), some (.int a6), none]) hC dL_types_94 (Nat.le_of_ble_eq_true rfl) (pvI rfl) rfl ?_
  refine r_iinc (v := 1) (lo1 := [some (rv a0), some (.int a1), some (.int a2), some (.int a3), some (.int r2), some (.int 1), some (.int (a6 + 1)), none]) hC dL_types_96 rfl (by decide) (pvI rfl) rfl ?_
  refine r_goto (tgt := 21) hC dL_types_99 (by decide) ?_
  refine r_sub (lo1 := [some (rv a0), some (.int a1), some (.int a2), some (.int a3), none, some (.int 1), some (.int (a6 + 1)), none]) ⟨Or.inr rfl, ⟨Or.inr rfl, ⟨Or.inr rfl, ⟨Or.inr rfl, ⟨Or.inl rfl, ⟨Or.inr rfl, ⟨Or.inr rfl, ⟨Or.inl rfl, trivial⟩⟩⟩⟩⟩⟩⟩⟩ ?_
  exact hC21 a0 a1 a2 a3 1 (a6 + 1) h2 hV
set_option maxRecDepth 100000 in
set_option maxHeartbeats 4000000 in
theorem ok_L_types_69 {E : Ev} {X : Xt} {l0 : Launch} {K : Hp → Prop} {C21 : Nat → Int32 → Int32 → Int32 → Int32 → Int32 → Hp → Prop} (hC : Cx E X l0 RL cL_types 8 rm_L_types) (hQ : CQ E X "types" none rm_L_types (KV K)) (hC21 : ∀ (a0 : Nat) (a1 : Int32) (a2 : Int32) (a3 : Int32) (a5 : Int32) (a6 : Int32) (h : Hp), C21 a0 a1 a2 a3 a5 a6 h → WW E X h 0 0 21 [some (rv a0), some (.int a1), some (.int a2), some (.int a3), none, some (.int a5), some (.int a6), none] []) (a0 : Nat) (a1 : Int32) (a2 : Int32) (a3 : Int32) (a6 : Int32) (s0 : Nat) (s1 : Int32) (h : Hp) (hV : V_L_types_69 K C21 a0 a1 a2 a3 a6 s0 s1 h) : WW E X h 0 0 69 [some (rv a0), some (.int a1), some (.int a2), some (.int a3), none, none, some (.int a6), none] [.int s1, rv s0] := by
  unfold V_L_types_69 at hV
  obtain ⟨k9, hV⟩ := hV
  refine r_callV (ci := 6) (As := [.int s1]) hC dL_types_69 rfl cf_X6_type ml_7_54 im_X6_type sl_X6_type lq_6 rfl rfl k9 rfl ⟨(Nat.le_of_ble_eq_true rfl), (Nat.le_of_ble_eq_true rfl), (Nat.le_of_ble_eq_true rfl), (Nat.le_of_ble_eq_true rfl)⟩ cs0 (Nat.le_of_ble_eq_true rfl) (con_X6_type s0 s1 h _ hV) rfl (kI (k := 0) (n := 0) (fun r1 h1 hV => ?_))
  refine r_istore (lo1 := [some (rv a0), some (.int a1), some (.int a2), some (.int a3), some (.int r1), none, some (.int a6), none]) hC dL_types_72 (Nat.le_of_ble_eq_true rfl) (pvI rfl) rfl ?_
  refine r_sub (lo1 := [some (rv a0), some (.int a1), some (.int a2), some (.int a3), none, none, some (.int a6), none]) ⟨Or.inr rfl, ⟨Or.inr rfl, ⟨Or.inr rfl, ⟨Or.inr rfl, ⟨Or.inl rfl, ⟨Or.inl rfl, ⟨Or.inr rfl, ⟨Or.inl rfl, trivial⟩⟩⟩⟩⟩⟩⟩⟩ ?_
  exact ok_L_types_74 hC hQ hC21 a0 a1 a2 a3 a6 h1 hV
set_option maxRecDepth 100000 in
set_option maxHeartbeats 4000000 in
theorem ok_L_types_21 {E : Ev} {X : Xt} {l0 : Launch} {K : Hp → Prop} (hC : Cx E X l0 RL cL_types 8 rm_L_types) (hQ : CQ E X "types" none rm_L_types (KV K)) : ∀ (n : Nat) (a0 : Nat) (a1 : Int32) (a2 : Int32) (a3 : Int32) (a5 : Int32) (a6 : Int32) (h : Hp), V_L_types_21 K n a0 a1 a2 a3 a5 a6 h → WW E X h 0 0 21 [some (rv a0), some (.int a1), some (.int a2), some (.int a3), none, some (.int a5), some (.int a6), none] [] := by
  intro n
  induction n with
  | zero => intro a0 a1 a2 a3 a5 a6 h hV; exact hV.elim
  | succ n ih =>
    intro a0 a1 a2 a3 a5 a6 h hV
    unfold V_L_types_21 at hV
    refine r_iload hC dL_types_21 rfl ?_
    refine r_iload_n hC dL_types_23 rfl ?_
    refine r_icmp_ge (tgt := 102) hC dL_types_24 (by decide) (fun k9 => ?_) (fun k9 => ?_)
    · replace hV := hV.1 k9
      exact r_vret hC hQ dL_types_102 (Nat.le_of_ble_eq_true rfl) (Nat.le_of_ble_eq_true rfl) ⟨rfl, hV⟩
    · replace hV := hV.2 k9
      refine r_iload_n hC dL_types_27 rfl ?_
      refine r_iload hC dL_types_28 rfl ?_
      refine r_ishr hC dL_types_30 ?_
      refine r_iload_n hC dL_types_31 rfl ?_
      refine r_iconst (v := 2) hC dL_types_32 (by decide) ?_
      refine r_iload hC dL_types_33 rfl ?_
      refine r_imul hC dL_types_35 ?_
      refine r_ishr hC dL_types_36 ?_
      refine r_ixor hC dL_types_37 ?_
      refine r_iconst (v := 3) hC dL_types_38 (by decide) ?_
      refine r_iand hC dL_types_39 ?_
      refine r_istore (lo1 := [some (rv a0), some (.int a1), some (.int a2), some (.int a3), none, some (.int a5), some (.int a6), some (.int (((a1 >>> (a6 &&& 31)) ^^^ (a2 >>> ((2 * a6) &&& 31))) &&& 3))]) hC dL_types_40 (Nat.le_of_ble_eq_true rfl) (pvI rfl) rfl ?_
      refine r_iload hC dL_types_42 rfl ?_
      refine r_if_eq (tgt := 74) hC dL_types_44 (by decide) (fun k9 => ?_) (fun k9 => ?_)
      · replace hV := hV.1 k9
        refine r_sub (lo1 := [some (rv a0), some (.int a1), some (.int a2), some (.int a3), none, none, some (.int a6), none]) ⟨Or.inr rfl, ⟨Or.inr rfl, ⟨Or.inr rfl, ⟨Or.inr rfl, ⟨Or.inl rfl, ⟨Or.inl rfl, ⟨Or.inr rfl, ⟨Or.inl rfl, trivial⟩⟩⟩⟩⟩⟩⟩⟩ ?_
        exact ok_L_types_74 hC hQ ih a0 a1 a2 a3 a6 h hV
      · replace hV := hV.2 k9
        refine r_iload hC dL_types_47 rfl ?_
        refine r_if_ne (tgt := 74) hC dL_types_49 (by decide) (fun k9 => ?_) (fun k9 => ?_)
        · replace hV := hV.1 k9
          refine r_sub (lo1 := [some (rv a0), some (.int a1), some (.int a2), some (.int a3), none, none, some (.int a6), none]) ⟨Or.inr rfl, ⟨Or.inr rfl, ⟨Or.inr rfl, ⟨Or.inr rfl, ⟨Or.inl rfl, ⟨Or.inl rfl, ⟨Or.inr rfl, ⟨Or.inl rfl, trivial⟩⟩⟩⟩⟩⟩⟩⟩ ?_
          exact ok_L_types_74 hC hQ ih a0 a1 a2 a3 a6 h hV
        · replace hV := hV.2 k9
          refine r_aload_n hC dL_types_52 rfl ?_
          refine r_iload_n hC dL_types_53 rfl ?_
          refine r_iload hC dL_types_54 rfl ?_
          refine r_ishr hC dL_types_56 ?_
          refine r_iconst (v := 3) hC dL_types_57 (by decide) ?_
          refine r_iand hC dL_types_58 ?_
          refine r_if_ne (tgt := 67) hC dL_types_59 (by decide) (fun k9 => ?_) (fun k9 => ?_)
          · replace hV := hV.1 k9
            refine r_bipush (v := 32) hC dL_types_67 (by decide) ?_
            refine r_sub (lo1 := [some (rv a0), some (.int a1), some (.int a2), some (.int a3), none, none, some (.int a6), none]) ⟨Or.inr rfl, ⟨Or.inr rfl, ⟨Or.inr rfl, ⟨Or.inr rfl, ⟨Or.inl rfl, ⟨Or.inl rfl, ⟨Or.inr rfl, ⟨Or.inl rfl, trivial⟩⟩⟩⟩⟩⟩⟩⟩ ?_
            exact ok_L_types_69 hC hQ ih a0 a1 a2 a3 a6 a0 32 h hV
          · replace hV := hV.2 k9
            refine r_bipush (v := 47) hC dL_types_62 (by decide) ?_
            refine r_goto (tgt := 69) hC dL_types_64 (by decide) ?_
            refine r_sub (lo1 := [some (rv a0), some (.int a1), some (.int a2), some (.int a3), none, none, some (.int a6), none]) ⟨Or.inr rfl, ⟨Or.inr rfl, ⟨Or.inr rfl, ⟨Or.inr rfl, ⟨Or.inl rfl, ⟨Or.inl rfl, ⟨Or.inr rfl, ⟨Or.inl rfl, trivial⟩⟩⟩⟩⟩⟩⟩⟩ ?_
            exact ok_L_types_69 hC hQ ih a0 a1 a2 a3 a6 a0 47 h hV
set_option maxRecDepth 100000 in
set_option maxHeartbeats 4000000 in
theorem ok_L_types_0 {E : Ev} {X : Xt} {l0 : Launch} {K : Hp → Prop} (hC : Cx E X l0 RL cL_types 8 rm_L_types) (hQ : CQ E X "types" none rm_L_types (KV K)) (a0 : Nat) (a1 : Int32) (a2 : Int32) (h : Hp) (hV : V_L_types a0 a1 a2 h K) : WW E X h 0 0 0 [some (rv a0), some (.int a1), some (.int a2), none, none, none, none, none] [] := by
  unfold V_L_types at hV
  refine r_iconst (v := 1) hC dL_types_0 (by decide) ?_
  refine r_iload_n hC dL_types_1 rfl ?_
  refine r_bipush (v := 14) hC dL_types_2 (by decide) ?_
  refine r_callS (As := [.int a1, .int 14]) hC dL_types_4 rfl cf_L_low ml_7_48 st_L_low rfl ⟨(Nat.le_of_ble_eq_true rfl), (Nat.le_of_ble_eq_true rfl), (Nat.le_of_ble_eq_true rfl), (Nat.le_of_ble_eq_true rfl)⟩ (csI cs0) (Nat.le_of_ble_eq_true rfl) (con_L_low a1 14 h _ hV) rfl (kI (k := 0) (n := 0) (fun r1 h1 hV => ?_))
  refine r_iadd hC dL_types_7 ?_
  refine r_istore_n (ii := 3) (lo1 := [some (rv a0), some (.int a1), some (.int a2), some (.int (1 + r1)), none, none, none, none]) hC dL_types_8 rfl (Nat.le_of_ble_eq_true rfl) (pvI rfl) rfl ?_
  refine r_aload_n hC dL_types_9 rfl ?_
  obtain ⟨k9, hV⟩ := hV
  refine r_callV (ci := 6) (As := []) hC dL_types_10 rfl cf_X6_clearText ml_7_51 im_X6_clearText sl_X6_clearText lq_6 rfl rfl k9 rfl ⟨(Nat.le_of_ble_eq_true rfl), (Nat.le_of_ble_eq_true rfl), (Nat.le_of_ble_eq_true rfl), (Nat.le_of_ble_eq_true rfl)⟩ cs0 (Nat.le_of_ble_eq_true rfl) (con_X6_clearText a0 h1 _ hV) rfl (kI (k := 0) (n := 0) (fun r2 h2 hV => ?_))
  refine r_istore (lo1 := [some (rv a0), some (.int a1), some (.int a2), some (.int (1 + r1)), some (.int r2), none, none, none]) hC dL_types_13 (Nat.le_of_ble_eq_true rfl) (pvI rfl) rfl ?_
  refine r_iconst (v := 0) hC dL_types_15 (by decide) ?_
  refine r_istore (lo1 := [some (rv a0), some (.int a1), some (.int a2), some (.int (1 + r1)), some (.int r2), some (.int 0), none, none]) hC dL_types_16 (Nat.le_of_ble_eq_true rfl) (pvI rfl) rfl ?_
  refine r_iconst (v := 0) hC dL_types_18 (by decide) ?_
  refine r_istore (lo1 := [some (rv a0), some (.int a1), some (.int a2), some (.int (1 + r1)), some (.int r2), some (.int 0), some (.int 0), none]) hC dL_types_19 (Nat.le_of_ble_eq_true rfl) (pvI rfl) rfl ?_
  refine r_sub (lo1 := [some (rv a0), some (.int a1), some (.int a2), some (.int (1 + r1)), none, some (.int 0), some (.int 0), none]) ⟨Or.inr rfl, ⟨Or.inr rfl, ⟨Or.inr rfl, ⟨Or.inr rfl, ⟨Or.inl rfl, ⟨Or.inr rfl, ⟨Or.inr rfl, ⟨Or.inl rfl, trivial⟩⟩⟩⟩⟩⟩⟩⟩ ?_
  obtain ⟨n9, hV⟩ := hV
  exact ok_L_types_21 hC hQ n9 a0 a1 a2 (1 + r1) 0 0 h2 hV
set_option maxRecDepth 100000 in
set_option maxHeartbeats 4000000 in
theorem con_L_types {E : Ev} {l0 : Launch} (a0 : Nat) (a1 : Int32) (a2 : Int32) (h : Hp) (K : Hp → Prop) (hV : V_L_types a0 a1 a2 h K) : Con E l0 yL_types cL_types 8 none rm_L_types [rv a0, .int a1, .int a2] h (KV K) := by
  refine Con.of (by decide +kernel) (cat_R (cat_I (cat_I cat_nil))) (Nat.le_of_ble_eq_true rfl) (fun X hC hQ => ?_)
  refine r_sub (lo1 := [some (rv a0), some (.int a1), some (.int a2), none, none, none, none, none]) (show lsub [some (rv a0), some (.int a1), some (.int a2), none, none, none, none, none] _ from ⟨Or.inr rfl, ⟨Or.inr rfl, ⟨Or.inr rfl, ⟨Or.inr rfl, ⟨Or.inr rfl, ⟨Or.inr rfl, ⟨Or.inr rfl, ⟨Or.inr rfl, trivial⟩⟩⟩⟩⟩⟩⟩⟩) ?_
  exact ok_L_types_0 hC hQ a0 a1 a2 h hV
