theorem dX0_append_0 : decode cX0_append 0 = .ok (.aload_n 0, 1) := by decide +kernel
theorem dX0_append_1 : decode cX0_append 1 = .ok (.getfield 15, 3) := by decide +kernel
theorem dX0_append_4 : decode cX0_append 4 = .ok (.ifCond .lt 15, 3) := by decide +kernel
theorem dX0_append_7 : decode cX0_append 7 = .ok (.aload_n 0, 1) := by decide +kernel
theorem dX0_append_8 : decode cX0_append 8 = .ok (.getfield 15, 3) := by decide +kernel
theorem dX0_append_11 : decode cX0_append 11 = .ok (.aload_n 0, 1) := by decide +kernel
theorem dX0_append_12 : decode cX0_append 12 = .ok (.getfield 9, 3) := by decide +kernel
theorem dX0_append_15 : decode cX0_append 15 = .ok (.arraylength, 1) := by decide +kernel
theorem dX0_append_16 : decode cX0_append 16 = .ok (.if_icmp .lt 5, 3) := by decide +kernel
theorem dX0_append_19 : decode cX0_append 19 = .ok (.iconst 0, 1) := by decide +kernel
theorem dX0_append_20 : decode cX0_append 20 = .ok (.ireturn, 1) := by decide +kernel
theorem dX0_append_21 : decode cX0_append 21 = .ok (.aload_n 0, 1) := by decide +kernel
theorem dX0_append_22 : decode cX0_append 22 = .ok (.getfield 9, 3) := by decide +kernel
theorem dX0_append_25 : decode cX0_append 25 = .ok (.aload_n 0, 1) := by decide +kernel
theorem dX0_append_26 : decode cX0_append 26 = .ok (.getfield 15, 3) := by decide +kernel
theorem dX0_append_29 : decode cX0_append 29 = .ok (.iload_n 1, 1) := by decide +kernel
theorem dX0_append_30 : decode cX0_append 30 = .ok (.castore, 1) := by decide +kernel
theorem dX0_append_31 : decode cX0_append 31 = .ok (.aload_n 0, 1) := by decide +kernel
theorem dX0_append_32 : decode cX0_append 32 = .ok (.dup, 1) := by decide +kernel
theorem dX0_append_33 : decode cX0_append 33 = .ok (.getfield 15, 3) := by decide +kernel
theorem dX0_append_36 : decode cX0_append 36 = .ok (.iconst 1, 1) := by decide +kernel
theorem dX0_append_37 : decode cX0_append 37 = .ok (.iadd, 1) := by decide +kernel
theorem dX0_append_38 : decode cX0_append 38 = .ok (.putfield 15, 3) := by decide +kernel
theorem dX0_append_41 : decode cX0_append 41 = .ok (.iconst 1, 1) := by decide +kernel
theorem dX0_append_42 : decode cX0_append 42 = .ok (.ireturn, 1) := by decide +kernel
def rm_X0_append : Room := { frames := 0, cells := 0, slots := 0, locals := 0 }
set_option maxRecDepth 100000 in
set_option maxHeartbeats 4000000 in
theorem ok_X0_append_19 {E : Ev} {X : Xt} {l0 : Launch} {K : Int32 → Hp → Prop} (hC : Cx E X l0 RX0 cX0_append 2 rm_X0_append) (hQ : CQ E X "append" (some .boolean) rm_X0_append (KI K)) (h : Hp) (hV : V_X0_append_19 K  h) : WW E X h 0 0 19 [none, none] [] := by
  unfold V_X0_append_19 at hV
  refine r_iconst (v := 0) hC dX0_append_19 (by decide) ?_
  exact r_zret hC hQ dX0_append_20 (Nat.le_of_ble_eq_true rfl) (Nat.le_of_ble_eq_true rfl) hV.1 ⟨_, rfl, hV.2⟩
set_option maxRecDepth 100000 in
set_option maxHeartbeats 4000000 in
theorem ok_X0_append_0 {E : Ev} {X : Xt} {l0 : Launch} {K : Int32 → Hp → Prop} (hC : Cx E X l0 RX0 cX0_append 2 rm_X0_append) (hQ : CQ E X "append" (some .boolean) rm_X0_append (KI K)) (a0 : Nat) (a1 : Int32) (h : Hp) (hV : V_X0_append a0 a1 h K) : WW E X h 0 0 0 [some (rv a0), some (.int a1)] [] := by
  unfold V_X0_append at hV
  refine r_aload_n hC dX0_append_0 rfl ?_
  obtain ⟨k9, hV⟩ := hV
  refine r_getI hC dX0_append_1 fl_0_15 rf_0_1 lq_0 k9 ?_
  refine r_if_lt (tgt := 19) hC dX0_append_4 (by decide) (fun k9 => ?_) (fun k9 => ?_)
  · replace hV := hV.1 k9
    refine r_sub (lo1 := [none, none]) ⟨Or.inl rfl, ⟨Or.inl rfl, trivial⟩⟩ ?_
    exact ok_X0_append_19 hC hQ  h hV
  · replace hV := hV.2 k9
    refine r_aload_n hC dX0_append_7 rfl ?_
    obtain ⟨k9, hV⟩ := hV
    refine r_getI hC dX0_append_8 fl_0_15 rf_0_1 lq_0 k9 ?_
    refine r_aload_n hC dX0_append_11 rfl ?_
    obtain ⟨k9, hV⟩ := hV
    refine r_getR hC dX0_append_12 fl_0_9 rf_0_0 lq_0 k9 ?_
    obtain ⟨k9, hV⟩ := hV
    refine r_alen (kd := 21) hC dX0_append_15 (by decide) k9 ?_
    refine r_icmp_lt (tgt := 21) hC dX0_append_16 (by decide) (fun k9 => ?_) (fun k9 => ?_)
    · replace hV := hV.1 k9
      refine r_aload_n hC dX0_append_21 rfl ?_
      obtain ⟨k9, hV⟩ := hV
      refine r_getR hC dX0_append_22 fl_0_9 rf_0_0 lq_0 k9 ?_
      refine r_aload_n hC dX0_append_25 rfl ?_
      obtain ⟨k9, hV⟩ := hV
      refine r_getI hC dX0_append_26 fl_0_15 rf_0_1 lq_0 k9 ?_
      refine r_iload_n hC dX0_append_29 rfl ?_
      obtain ⟨k9, k8, hV⟩ := hV
      refine r_cast (kd := 21) hC dX0_append_30 (by decide) rfl k9 k8 (nmH (fun h1 k9 => ?_))
      replace hV := hV h1 k9
      refine r_aload_n hC dX0_append_31 rfl ?_
      refine r_dup hC dX0_append_32 (rv_cat _) ?_
      obtain ⟨k9, hV⟩ := hV
      refine r_getI hC dX0_append_33 fl_0_15 rf_0_1 lq_0 k9 ?_
      refine r_iconst (v := 1) hC dX0_append_36 (by decide) ?_
      refine r_iadd hC dX0_append_37 ?_
      obtain ⟨k9, hV⟩ := hV
      refine r_putI hC dX0_append_38 fl_0_15 ft_0 rfl rf_0_1 ty_0_1 lq_0 k9 (nmH (fun h2 k9 => ?_))
      replace hV := hV h2 k9
      refine r_iconst (v := 1) hC dX0_append_41 (by decide) ?_
      exact r_zret hC hQ dX0_append_42 (Nat.le_of_ble_eq_true rfl) (Nat.le_of_ble_eq_true rfl) hV.1 ⟨_, rfl, hV.2⟩
    · replace hV := hV.2 k9
      refine r_sub (lo1 := [none, none]) ⟨Or.inl rfl, ⟨Or.inl rfl, trivial⟩⟩ ?_
      exact ok_X0_append_19 hC hQ  h hV
set_option maxRecDepth 100000 in
set_option maxHeartbeats 4000000 in
theorem con_X0_append {E : Ev} {l0 : Launch} (a0 : Nat) (a1 : Int32) (h : Hp) (K : Int32 → Hp → Prop) (hV : V_X0_append a0 a1 h K) : Con E l0 yX0_append cX0_append 2 (some .boolean) rm_X0_append [rv a0, .int a1] h (KI K) := by
  refine Con.of (by decide +kernel) (cat_R (cat_I cat_nil)) (Nat.le_of_ble_eq_true rfl) (fun X hC hQ => ?_)
  refine r_sub (lo1 := [some (rv a0), some (.int a1)]) (show lsub [some (rv a0), some (.int a1)] _ from ⟨Or.inr rfl, ⟨Or.inr rfl, trivial⟩⟩) ?_
  exact ok_X0_append_0 hC hQ a0 a1 h hV
theorem dX6_isLetter_0 : decode cX6_isLetter 0 = .ok (.iload_n 0, 1) := by decide +kernel
theorem dX6_isLetter_1 : decode cX6_isLetter 1 = .ok (.bipush 97, 2) := by decide +kernel
theorem dX6_isLetter_3 : decode cX6_isLetter 3 = .ok (.if_icmp .lt 13, 3) := by decide +kernel
theorem dX6_isLetter_6 : decode cX6_isLetter 6 = .ok (.iload_n 0, 1) := by decide +kernel
theorem dX6_isLetter_7 : decode cX6_isLetter 7 = .ok (.bipush 122, 2) := by decide +kernel
theorem dX6_isLetter_9 : decode cX6_isLetter 9 = .ok (.if_icmp .gt 7, 3) := by decide +kernel
theorem dX6_isLetter_12 : decode cX6_isLetter 12 = .ok (.iconst 1, 1) := by decide +kernel
theorem dX6_isLetter_13 : decode cX6_isLetter 13 = .ok (.goto 4, 3) := by decide +kernel
theorem dX6_isLetter_16 : decode cX6_isLetter 16 = .ok (.iconst 0, 1) := by decide +kernel
theorem dX6_isLetter_17 : decode cX6_isLetter 17 = .ok (.ireturn, 1) := by decide +kernel
def rm_X6_isLetter : Room := { frames := 0, cells := 0, slots := 0, locals := 0 }
set_option maxRecDepth 100000 in
set_option maxHeartbeats 4000000 in
theorem ok_X6_isLetter_17 {E : Ev} {X : Xt} {l0 : Launch} {K : Int32 → Hp → Prop} (hC : Cx E X l0 RX6 cX6_isLetter 1 rm_X6_isLetter) (hQ : CQ E X "isLetter" (some .boolean) rm_X6_isLetter (KI K)) (s0 : Int32) (h : Hp) (hV : V_X6_isLetter_17 K s0 h) : WW E X h 0 0 17 [none] [.int s0] := by
  unfold V_X6_isLetter_17 at hV
  exact r_zret hC hQ dX6_isLetter_17 (Nat.le_of_ble_eq_true rfl) (Nat.le_of_ble_eq_true rfl) hV.1 ⟨_, rfl, hV.2⟩
set_option maxRecDepth 100000 in
set_option maxHeartbeats 4000000 in
theorem ok_X6_isLetter_16 {E : Ev} {X : Xt} {l0 : Launch} {K : Int32 → Hp → Prop} (hC : Cx E X l0 RX6 cX6_isLetter 1 rm_X6_isLetter) (hQ : CQ E X "isLetter" (some .boolean) rm_X6_isLetter (KI K)) (h : Hp) (hV : V_X6_isLetter_16 K  h) : WW E X h 0 0 16 [none] [] := by
  unfold V_X6_isLetter_16 at hV
  refine r_iconst (v := 0) hC dX6_isLetter_16 (by decide) ?_
  exact ok_X6_isLetter_17 hC hQ 0 h hV
set_option maxRecDepth 100000 in
set_option maxHeartbeats 4000000 in
theorem ok_X6_isLetter_0 {E : Ev} {X : Xt} {l0 : Launch} {K : Int32 → Hp → Prop} (hC : Cx E X l0 RX6 cX6_isLetter 1 rm_X6_isLetter) (hQ : CQ E X "isLetter" (some .boolean) rm_X6_isLetter (KI K)) (a0 : Int32) (h : Hp) (hV : V_X6_isLetter a0 h K) : WW E X h 0 0 0 [some (.int a0)] [] := by
  unfold V_X6_isLetter at hV
  refine r_iload_n hC dX6_isLetter_0 rfl ?_
  refine r_bipush (v := 97) hC dX6_isLetter_1 (by decide) ?_
  refine r_icmp_lt (tgt := 16) hC dX6_isLetter_3 (by decide) (fun k9 => ?_) (fun k9 => ?_)
  · replace hV := hV.1 k9
    refine r_sub (lo1 := [none]) ⟨Or.inl rfl, trivial⟩ ?_
    exact ok_X6_isLetter_16 hC hQ  h hV
  · replace hV := hV.2 k9
    refine r_iload_n hC dX6_isLetter_6 rfl ?_
    refine r_bipush (v := 122) hC dX6_isLetter_7 (by decide) ?_
    refine r_icmp_gt (tgt := 16) hC dX6_isLetter_9 (by decide) (fun k9 => ?_) (fun k9 => ?_)
    · replace hV := hV.1 k9
      refine r_sub (lo1 := [none]) ⟨Or.inl rfl, trivial⟩ ?_
      exact ok_X6_isLetter_16 hC hQ  h hV
    · replace hV := hV.2 k9
      refine r_iconst (v := 1) hC dX6_isLetter_12 (by decide) ?_
      refine r_goto (tgt := 17) hC dX6_isLetter_13 (by decide) ?_
      refine r_sub (lo1 := [none]) ⟨Or.inl rfl, trivial⟩ ?_
      exact ok_X6_isLetter_17 hC hQ 1 h hV
set_option maxRecDepth 100000 in
set_option maxHeartbeats 4000000 in
theorem con_X6_isLetter {E : Ev} {l0 : Launch} (a0 : Int32) (h : Hp) (K : Int32 → Hp → Prop) (hV : V_X6_isLetter a0 h K) : Con E l0 yX6_isLetter cX6_isLetter 1 (some .boolean) rm_X6_isLetter [.int a0] h (KI K) := by
  refine Con.of (by decide +kernel) (cat_I cat_nil) (Nat.le_of_ble_eq_true rfl) (fun X hC hQ => ?_)
  refine r_sub (lo1 := [some (.int a0)]) (show lsub [some (.int a0)] _ from ⟨Or.inr rfl, trivial⟩) ?_
  exact ok_X6_isLetter_0 hC hQ a0 h hV
theorem dX0_findFault_0 : decode cX0_findFault 0 = .ok (.iconst 1, 1) := by decide +kernel
theorem dX0_findFault_1 : decode cX0_findFault 1 = .ok (.istore_n 1, 1) := by decide +kernel
theorem dX0_findFault_2 : decode cX0_findFault 2 = .ok (.iconst 0, 1) := by decide +kernel
theorem dX0_findFault_3 : decode cX0_findFault 3 = .ok (.istore_n 2, 1) := by decide +kernel
theorem dX0_findFault_4 : decode cX0_findFault 4 = .ok (.iload_n 2, 1) := by decide +kernel
theorem dX0_findFault_5 : decode cX0_findFault 5 = .ok (.aload_n 0, 1) := by decide +kernel
theorem dX0_findFault_6 : decode cX0_findFault 6 = .ok (.getfield 15, 3) := by decide +kernel
theorem dX0_findFault_9 : decode cX0_findFault 9 = .ok (.if_icmp .ge 82, 3) := by decide +kernel
theorem dX0_findFault_12 : decode cX0_findFault 12 = .ok (.iload_n 2, 1) := by decide +kernel
theorem dX0_findFault_13 : decode cX0_findFault 13 = .ok (.aload_n 0, 1) := by decide +kernel
theorem dX0_findFault_14 : decode cX0_findFault 14 = .ok (.getfield 9, 3) := by decide +kernel
theorem dX0_findFault_17 : decode cX0_findFault 17 = .ok (.arraylength, 1) := by decide +kernel
theorem dX0_findFault_18 : decode cX0_findFault 18 = .ok (.if_icmp .ge 73, 3) := by decide +kernel
theorem dX0_findFault_21 : decode cX0_findFault 21 = .ok (.aload_n 0, 1) := by decide +kernel
theorem dX0_findFault_22 : decode cX0_findFault 22 = .ok (.getfield 9, 3) := by decide +kernel
theorem dX0_findFault_25 : decode cX0_findFault 25 = .ok (.iload_n 2, 1) := by decide +kernel
theorem dX0_findFault_26 : decode cX0_findFault 26 = .ok (.caload, 1) := by decide +kernel
theorem dX0_findFault_27 : decode cX0_findFault 27 = .ok (.invokestatic 19, 3) := by decide +kernel
theorem dX0_findFault_30 : decode cX0_findFault 30 = .ok (.istore_n 3, 1) := by decide +kernel
theorem dX0_findFault_31 : decode cX0_findFault 31 = .ok (.aload_n 0, 1) := by decide +kernel
theorem dX0_findFault_32 : decode cX0_findFault 32 = .ok (.getfield 9, 3) := by decide +kernel
theorem dX0_findFault_35 : decode cX0_findFault 35 = .ok (.iload_n 2, 1) := by decide +kernel
theorem dX0_findFault_36 : decode cX0_findFault 36 = .ok (.caload, 1) := by decide +kernel
theorem dX0_findFault_37 : decode cX0_findFault 37 = .ok (.bipush 32, 2) := by decide +kernel
theorem dX0_findFault_39 : decode cX0_findFault 39 = .ok (.if_icmp .eq 14, 3) := by decide +kernel
theorem dX0_findFault_42 : decode cX0_findFault 42 = .ok (.aload_n 0, 1) := by decide +kernel
theorem dX0_findFault_43 : decode cX0_findFault 43 = .ok (.getfield 9, 3) := by decide +kernel
theorem dX0_findFault_46 : decode cX0_findFault 46 = .ok (.iload_n 2, 1) := by decide +kernel
theorem dX0_findFault_47 : decode cX0_findFault 47 = .ok (.caload, 1) := by decide +kernel
theorem dX0_findFault_48 : decode cX0_findFault 48 = .ok (.bipush 47, 2) := by decide +kernel
theorem dX0_findFault_50 : decode cX0_findFault 50 = .ok (.if_icmp .ne 7, 3) := by decide +kernel
theorem dX0_findFault_53 : decode cX0_findFault 53 = .ok (.iconst 1, 1) := by decide +kernel
theorem dX0_findFault_54 : decode cX0_findFault 54 = .ok (.goto 4, 3) := by decide +kernel
theorem dX0_findFault_57 : decode cX0_findFault 57 = .ok (.iconst 0, 1) := by decide +kernel
theorem dX0_findFault_58 : decode cX0_findFault 58 = .ok (.istore 4, 2) := by decide +kernel
theorem dX0_findFault_60 : decode cX0_findFault 60 = .ok (.iload_n 3, 1) := by decide +kernel
theorem dX0_findFault_61 : decode cX0_findFault 61 = .ok (.ifCond .ne 14, 3) := by decide +kernel
theorem dX0_findFault_64 : decode cX0_findFault 64 = .ok (.iload_n 1, 1) := by decide +kernel
theorem dX0_findFault_65 : decode cX0_findFault 65 = .ok (.ifCond .ne 8, 3) := by decide +kernel
theorem dX0_findFault_68 : decode cX0_findFault 68 = .ok (.iload 4, 2) := by decide +kernel
theorem dX0_findFault_70 : decode cX0_findFault 70 = .ok (.ifCond .ne 5, 3) := by decide +kernel
theorem dX0_findFault_73 : decode cX0_findFault 73 = .ok (.iload_n 2, 1) := by decide +kernel
theorem dX0_findFault_74 : decode cX0_findFault 74 = .ok (.ireturn, 1) := by decide +kernel
theorem dX0_findFault_75 : decode cX0_findFault 75 = .ok (.iload_n 3, 1) := by decide +kernel
theorem dX0_findFault_76 : decode cX0_findFault 76 = .ok (.ifCond .ne 7, 3) := by decide +kernel
theorem dX0_findFault_79 : decode cX0_findFault 79 = .ok (.iconst 1, 1) := by decide +kernel
theorem dX0_findFault_80 : decode cX0_findFault 80 = .ok (.goto 4, 3) := by decide +kernel
theorem dX0_findFault_83 : decode cX0_findFault 83 = .ok (.iconst 0, 1) := by decide +kernel
theorem dX0_findFault_84 : decode cX0_findFault 84 = .ok (.istore_n 1, 1) := by decide +kernel
theorem dX0_findFault_85 : decode cX0_findFault 85 = .ok (.iinc 2 1, 3) := by decide +kernel
theorem dX0_findFault_88 : decode cX0_findFault 88 = .ok (.goto (-84), 3) := by decide +kernel
theorem dX0_findFault_91 : decode cX0_findFault 91 = .ok (.iload_n 1, 1) := by decide +kernel
theorem dX0_findFault_92 : decode cX0_findFault 92 = .ok (.ifCond .eq 10, 3) := by decide +kernel
theorem dX0_findFault_95 : decode cX0_findFault 95 = .ok (.aload_n 0, 1) := by decide +kernel
theorem dX0_findFault_96 : decode cX0_findFault 96 = .ok (.getfield 15, 3) := by decide +kernel
theorem dX0_findFault_99 : decode cX0_findFault 99 = .ok (.goto 4, 3) := by decide +kernel
theorem dX0_findFault_102 : decode cX0_findFault 102 = .ok (.iconst (-1), 1) := by decide +kernel
theorem dX0_findFault_103 : decode cX0_findFault 103 = .ok (.ireturn, 1) := by decide +kernel
def rm_X0_findFault : Room := { frames := 1, cells := 0, slots := 0, locals := 20 }
set_option maxRecDepth 100000 in
set_option maxHeartbeats 4000000 in
theorem ok_X0_findFault_73 {E : Ev} {X : Xt} {l0 : Launch} {K : Int32 → Hp → Prop} (hC : Cx E X l0 RX0 cX0_findFault 5 rm_X0_findFault) (hQ : CQ E X "findFault" (some .int) rm_X0_findFault (KI K)) (a2 : Int32) (h : Hp) (hV : V_X0_findFault_73 K a2 h) : WW E X h 0 0 73 [none, none, some (.int a2), none, none] [] := by
  unfold V_X0_findFault_73 at hV
  refine r_iload_n hC dX0_findFault_73 rfl ?_
  exact r_iret hC hQ dX0_findFault_74 (Nat.le_of_ble_eq_true rfl) (Nat.le_of_ble_eq_true rfl) ⟨_, rfl, hV⟩
set_option maxRecDepth 100000 in
set_option maxHeartbeats 4000000 in
theorem ok_X0_findFault_84 {E : Ev} {X : Xt} {l0 : Launch} {K : Int32 → Hp → Prop} {C4 : Nat → Int32 → Int32 → Hp → Prop} (hC : Cx E X l0 RX0 cX0_findFault 5 rm_X0_findFault) (hQ : CQ E X "findFault" (some .int) rm_X0_findFault (KI K)) (hC4 : ∀ (a0 : Nat) (a1 : Int32) (a2 : Int32) (h : Hp), C4 a0 a1 a2 h → WW E X h 0 0 4 [some (rv a0), some (.int a1), some (.int a2), none, none] []) (a0 : Nat) (a2 : Int32) (s0 : Int32) (h : Hp) (hV : V_X0_findFault_84 K C4 a0 a2 s0 h) : WW E X h 0 0 84 [some (rv a0), none, some (.int a2), none, none] [.int s0] := by
  unfold V_X0_findFault_84 at hV
  refine r_istore_n (ii := 1) (lo1 := [some (rv a0), some (.int s0), some (.int a2), none, none]) hC dX0_findFault_84 rfl (Nat.le_of_ble_eq_true rfl) (pvR rfl) rfl ?_
  refine r_iinc (v := 1) (lo1 := [some (rv a0), some (.int s0), some (.int (a2 + 1)), none, none]) hC dX0_findFault_85 rfl (by decide) (pvI rfl) rfl ?_
  refine r_goto (tgt := 4) hC dX0_findFault_88 (by decide) ?_
  exact hC4 a0 s0 (a2 + 1) h hV
set_option maxRecDepth 100000 in
set_option maxHeartbeats 4000000 in
theorem ok_X0_findFault_75 {E : Ev} {X : Xt} {l0 : Launch} {K : Int32 → Hp → Prop} {C4 : Nat → Int32 → Int32 → Hp → Prop} (hC : Cx E X l0 RX0 cX0_findFault 5 rm_X0_findFault) (hQ : CQ E X "findFault" (some .int) rm_X0_findFault (KI K)) (hC4 : ∀ (a0 : Nat) (a1 : Int32) (a2 : Int32) (h : Hp), C4 a0 a1 a2 h → WW E X h 0 0 4 [some (rv a0), some (.int a1), some (.int a2), none, none] []) (a0 : Nat) (a2 : Int32) (a3 : Int32) (h : Hp) (hV : V_X0_findFault_75 K C4 a0 a2 a3 h) : WW E X h 0 0 75 [some (rv a0), none, some (.int a2), some (.int a3), none] [] := by
  unfold V_X0_findFault_75 at hV
  refine r_iload_n hC dX0_findFault_75 rfl ?_
  refine r_if_ne (tgt := 83) hC dX0_findFault_76 (by decide) (fun k9 => ?_) (fun k9 => ?_)
  · replace hV := hV.1 k9
    refine r_iconst (v := 0) hC dX0_findFault_83 (by decide) ?_
    refine r_sub (lo1 := [some (rv a0), none, some (.int a2), none, none]) ⟨Or.inr rfl, ⟨Or.inl rfl, ⟨Or.inr rfl, ⟨Or.inl rfl, ⟨Or.inl rfl, trivial⟩⟩⟩⟩⟩ ?_
    exact ok_X0_findFault_84 hC hQ hC4 a0 a2 0 h hV
  · replace hV := hV.2 k9
    refine r_iconst (v := 1) hC dX0_findFault_79 (by decide) ?_
    refine r_goto (tgt := 84) hC dX0_findFault_80 (by decide) ?_
    refine r_sub (lo1 := [some (rv a0), none, some (.int a2), none, none]) ⟨Or.inr rfl, ⟨Or.inl rfl, ⟨Or.inr rfl, ⟨Or.inl rfl, ⟨Or.inl rfl, trivial⟩⟩⟩⟩⟩ ?_
    exact ok_X0_findFault_84 hC hQ hC4 a0 a2 1 h hV
set_option maxRecDepth 100000 in
set_option maxHeartbeats 4000000 in
theorem ok_X0_findFault_58 {E : Ev} {X : Xt} {l0 : Launch} {K : Int32 → Hp → Prop} {C4 : Nat → Int32 → Int32 → Hp → Prop} (hC : Cx E X l0 RX0 cX0_findFault 5 rm_X0_findFault) (hQ : CQ E X "findFault" (some .int) rm_X0_findFault (KI K)) (hC4 : ∀ (a0 : Nat) (a1 : Int32) (a2 : Int32) (h : Hp), C4 a0 a1 a2 h → WW E X h 0 0 4 [some (rv a0), some (.int a1), some (.int a2), none, none] []) (a0 : Nat) (a1 : Int32) (a2 : Int32) (a3 : Int32) (s0 : Int32) (h : Hp) (hV : V_X0_findFault_58 K C4 a0 a1 a2 a3 s0 h) : WW E X h 0 0 58 [some (rv a0), some (.int a1), some (.int a2), some (.int a3), none] [.int s0] := by
  unfold V_X0_findFault_58 at hV
  refine r_istore (lo1 := [some (rv a0), some (.int a1), some (.int a2), some (.int a3), some (.int s0)]) hC dX0_findFault_58 (Nat.le_of_ble_eq_true rfl) (pvI rfl) rfl ?_
  refine r_iload_n hC dX0_findFault_60 rfl ?_
  refine r_if_ne (tgt := 75) hC dX0_findFault_61 (by decide) (fun k9 => ?_) (fun k9 => ?_)
  · replace hV := hV.1 k9
    refine r_sub (lo1 := [some (rv a0), none, some (.int a2), some (.int a3), none]) ⟨Or.inr rfl, ⟨Or.inl rfl, ⟨Or.inr rfl, ⟨Or.inr rfl, ⟨Or.inl rfl, trivial⟩⟩⟩⟩⟩ ?_
    exact ok_X0_findFault_75 hC hQ hC4 a0 a2 a3 h hV
  · replace hV := hV.2 k9
    refine r_iload_n hC dX0_findFault_64 rfl ?_
    refine r_if_ne (tgt := 73) hC dX0_findFault_65 (by decide) (fun k9 => ?_) (fun k9 => ?_)
    · replace hV := hV.1 k9
      refine r_sub (lo1 := [none, none, some (.int a2), none, none]) ⟨Or.inl rfl, ⟨Or.inl rfl, ⟨Or.inr rfl, ⟨Or.inl rfl, ⟨Or.inl rfl, trivial⟩⟩⟩⟩⟩ ?_
      exact ok_X0_findFault_73 hC hQ a2 h hV
    · replace hV := hV.2 k9
      refine r_iload hC dX0_findFault_68 rfl ?_
      refine r_if_ne (tgt := 75) hC dX0_findFault_70 (by decide) (fun k9 => ?_) (fun k9 => ?_)
      · replace hV := hV.1 k9
        refine r_sub (lo1 := [some (rv a0), none, some (.int a2), some (.int a3), none]) ⟨Or.inr rfl, ⟨Or.inl rfl, ⟨Or.inr rfl, ⟨Or.inr rfl, ⟨Or.inl rfl, trivial⟩⟩⟩⟩⟩ ?_
        exact ok_X0_findFault_75 hC hQ hC4 a0 a2 a3 h hV
      · replace hV := hV.2 k9
        refine r_sub (lo1 := [none, none, some (.int a2), none, none]) ⟨Or.inl rfl, ⟨Or.inl rfl, ⟨Or.inr rfl, ⟨Or.inl rfl, ⟨Or.inl rfl, trivial⟩⟩⟩⟩⟩ ?_
        exact ok_X0_findFault_73 hC hQ a2 h hV
set_option maxRecDepth 100000 in
set_option maxHeartbeats 4000000 in
theorem ok_X0_findFault_53 {E : Ev} {X : Xt} {l0 : Launch} {K : Int32 → Hp → Prop} {C4 : Nat → Int32 → Int32 → Hp → Prop} (hC : Cx E X l0 RX0 cX0_findFault 5 rm_X0_findFault) (hQ : CQ E X "findFault" (some .int) rm_X0_findFault (KI K)) (hC4 : ∀ (a0 : Nat) (a1 : Int32) (a2 : Int32) (h : Hp), C4 a0 a1 a2 h → WW E X h 0 0 4 [some (rv a0), some (.int a1), some (.int a2), none, none] []) (a0 : Nat) (a1 : Int32) (a2 : Int32) (a3 : Int32) (h : Hp) (hV : V_X0_findFault_53 K C4 a0 a1 a2 a3 h) : WW E X h 0 0 53 [some (rv a0), some (.int a1), some (.int a2), some (.int a3), none] [] := by
  unfold V_X0_findFault_53 at hV
  refine r_iconst (v := 1) hC dX0_findFault_53 (by decide) ?_
  refine r_goto (tgt := 58) hC dX0_findFault_54 (by decide) ?_
  exact ok_X0_findFault_58 hC hQ hC4 a0 a1 a2 a3 1 h hV
set_option maxRecDepth 100000 in
set_option maxHeartbeats 4000000 in
theorem ok_X0_findFault_103 {E : Ev} {X : Xt} {l0 : Launch} {K : Int32 → Hp → Prop} (hC : Cx E X l0 RX0 cX0_findFault 5 rm_X0_findFault) (hQ : CQ E X "findFault" (some .int) rm_X0_findFault (KI K)) (s0 : Int32) (h : Hp) (hV : V_X0_findFault_103 K s0 h) : WW E X h 0 0 103 [none, none, none, none, none] [.int s0] := by
  unfold V_X0_findFault_103 at hV
  exact r_iret hC hQ dX0_findFault_103 (Nat.le_of_ble_eq_true rfl) (Nat.le_of_ble_eq_true rfl) ⟨_, rfl, hV⟩
set_option maxRecDepth 100000 in
set_option maxHeartbeats 4000000 in
theorem ok_X0_findFault_91 {E : Ev} {X : Xt} {l0 : Launch} {K : Int32 → Hp → Prop} (hC : Cx E X l0 RX0 cX0_findFault 5 rm_X0_findFault) (hQ : CQ E X "findFault" (some .int) rm_X0_findFault (KI K)) (a0 : Nat) (a1 : Int32) (h : Hp) (hV : V_X0_findFault_91 K a0 a1 h) : WW E X h 0 0 91 [some (rv a0), some (.int a1), none, none, none] [] := by
  unfold V_X0_findFault_91 at hV
  refine r_iload_n hC dX0_findFault_91 rfl ?_
  refine r_if_eq (tgt := 102) hC dX0_findFault_92 (by decide) (fun k9 => ?_) (fun k9 => ?_)
  · replace hV := hV.1 k9
    refine r_iconst (v := (-1)) hC dX0_findFault_102 (by decide) ?_
    refine r_sub (lo1 := [none, none, none, none, none]) ⟨Or.inl rfl, ⟨Or.inl rfl, ⟨Or.inl rfl, ⟨Or.inl rfl, ⟨Or.inl rfl, trivial⟩⟩⟩⟩⟩ ?_
    exact ok_X0_findFault_103 hC hQ (-1) h hV
  · replace hV := hV.2 k9
    refine r_aload_n hC dX0_findFault_95 rfl ?_
    obtain ⟨k9, hV⟩ := hV
    refine r_getI hC dX0_findFault_96 fl_0_15 rf_0_1 lq_0 k9 ?_
    refine r_goto (tgt := 103) hC dX0_findFault_99 (by decide) ?_
    refine r_sub (lo1 := [none, none, none, none, none]) ⟨Or.inl rfl, ⟨Or.inl rfl, ⟨Or.inl rfl, ⟨Or.inl rfl, ⟨Or.inl rfl, trivial⟩⟩⟩⟩⟩ ?_
    exact ok_X0_findFault_103 hC hQ (hI h a0 1) h hV
set_option maxRecDepth 100000 in
set_option maxHeartbeats 4000000 in
theorem ok_X0_findFault_4 {E : Ev} {X : Xt} {l0 : Launch} {K : Int32 → Hp → Prop} (hC : Cx E X l0 RX0 cX0_findFault 5 rm_X0_findFault) (hQ : CQ E X "findFault" (some .int) rm_X0_findFault (KI K)) : ∀ (n : Nat) (a0 : Nat) (a1 : Int32) (a2 : Int32) (h : Hp), V_X0_findFault_4 K n a0 a1 a2 h → WW E X h 0 0 4 [some (rv a0), some (.int a1), some (.int a2), none, none] [] := by
  intro n
  induction n with
  | zero => intro a0 a1 a2 h hV; exact hV.elim
  | succ n ih =>
    intro a0 a1 a2 h hV
    unfold V_X0_findFault_4 at hV
    refine r_iload_n hC dX0_findFault_4 rfl ?_
    refine r_aload_n hC dX0_findFault_5 rfl ?_
    obtain ⟨k9, hV⟩ := hV
    refine r_getI hC dX0_findFault_6 fl_0_15 rf_0_1 lq_0 k9 ?_
    refine r_icmp_ge (tgt := 91) hC dX0_findFault_9 (by decide) (fun k9 => ?_) (fun k9 => ?_)
    · replace hV := hV.1 k9
      refine r_sub (lo1 := [some (rv a0), some (.int a1), none, none, none]) ⟨Or.inr rfl, ⟨Or.inr rfl, ⟨Or.inl rfl, ⟨Or.inl rfl, ⟨Or.inl rfl, trivial⟩⟩⟩⟩⟩ ?_
      exact ok_X0_findFault_91 hC hQ a0 a1 h hV
    · replace hV := hV.2 k9
      refine r_iload_n hC dX0_findFault_12 rfl ?_
      refine r_aload_n hC dX0_findFault_13 rfl ?_
      obtain ⟨k9, hV⟩ := hV
      refine r_getR hC dX0_findFault_14 fl_0_9 rf_0_0 lq_0 k9 ?_
      obtain ⟨k9, hV⟩ := hV
      refine r_alen (kd := 21) hC dX0_findFault_17 (by decide) k9 ?_
      refine r_icmp_ge (tgt := 91) hC dX0_findFault_18 (by decide) (fun k9 => ?_) (fun k9 => ?_)
      · replace hV := hV.1 k9
        refine r_sub (lo1 := [some (rv a0), some (.int a1), none, none, none]) ⟨Or.inr rfl, ⟨Or.inr rfl, ⟨Or.inl rfl, ⟨Or.inl rfl, ⟨Or.inl rfl, trivial⟩⟩⟩⟩⟩ ?_
        exact ok_X0_findFault_91 hC hQ a0 a1 h hV
      · replace hV := hV.2 k9
        refine r_aload_n hC dX0_findFault_21 rfl ?_
        obtain ⟨k9, hV⟩ := hV
        refine r_getR hC dX0_findFault_22 fl_0_9 rf_0_0 lq_0 k9 ?_
        refine r_iload_n hC dX0_findFault_25 rfl ?_
        obtain ⟨k9, k8, hV⟩ := hV
        refine r_cald (kd := 21) hC dX0_findFault_26 (by decide) rfl k9 k8 ?_
        refine r_callSN (As := [.int (hI h (hR h a0 0) (ix a2))]) hC dX0_findFault_27 rfl cf_X6_isLetter nl_0_19 st_X6_isLetter rfl ⟨(Nat.le_of_ble_eq_true rfl), (Nat.le_of_ble_eq_true rfl), (Nat.le_of_ble_eq_true rfl), (Nat.le_of_ble_eq_true rfl)⟩ cs0 (Nat.le_of_ble_eq_true rfl) (con_X6_isLetter (hI h (hR h a0 0) (ix a2)) h _ hV) rfl (kI (k := 0) (n := 0) (fun r1 h1 hV => ?_))
        refine r_istore_n (ii := 3) (lo1 := [some (rv a0), some (.int a1), some (.int a2), some (.int r1), none]) hC dX0_findFault_30 rfl (Nat.le_of_ble_eq_true rfl) (pvI rfl) rfl ?_
        refine r_aload_n hC dX0_findFault_31 rfl ?_
        obtain ⟨k9, hV⟩ := hV
        refine r_getR hC dX0_findFault_32 fl_0_9 rf_0_0 lq_0 k9 ?_
        refine r_iload_n hC dX0_findFault_35 rfl ?_
        obtain ⟨k9, k8, hV⟩ := hV
        refine r_cald (kd := 21) hC dX0_findFault_36 (by decide) rfl k9 k8 ?_
        refine r_bipush (v := 32) hC dX0_findFault_37 (by decide) ?_
        refine r_icmp_eq (tgt := 53) hC dX0_findFault_39 (by decide) (fun k9 => ?_) (fun k9 => ?_)
        · replace hV := hV.1 k9
          exact ok_X0_findFault_53 hC hQ ih a0 a1 a2 r1 h1 hV
        · replace hV := hV.2 k9
          refine r_aload_n hC dX0_findFault_42 rfl ?_
          obtain ⟨k9, hV⟩ := hV
          refine r_getR hC dX0_findFault_43 fl_0_9 rf_0_0 lq_0 k9 ?_
          refine r_iload_n hC dX0_findFault_46 rfl ?_
          obtain ⟨k9, k8, hV⟩ := hV
          refine r_cald (kd := 21) hC dX0_findFault_47 (by decide) rfl k9 k8 ?_
          refine r_bipush (v := 47) hC dX0_findFault_48 (by decide) ?_
          refine r_icmp_ne (tgt := 57) hC dX0_findFault_50 (by decide) (fun k9 => ?_) (fun k9 => ?_)
          · replace hV := hV.1 k9
            refine r_iconst (v := 0) hC dX0_findFault_57 (by decide) ?_
            exact ok_X0_findFault_58 hC hQ ih a0 a1 a2 r1 0 h1 hV
          · replace hV := hV.2 k9
            exact ok_X0_findFault_53 hC hQ ih a0 a1 a2 r1 h1 hV
set_option maxRecDepth 100000 in
set_option maxHeartbeats 4000000 in
theorem ok_X0_findFault_0 {E : Ev} {X : Xt} {l0 : Launch} {K : Int32 → Hp → Prop} (hC : Cx E X l0 RX0 cX0_findFault 5 rm_X0_findFault) (hQ : CQ E X "findFault" (some .int) rm_X0_findFault (KI K)) (a0 : Nat) (h : Hp) (hV : V_X0_findFault a0 h K) : WW E X h 0 0 0 [some (rv a0), none, none, none, none] [] := by
  unfold V_X0_findFault at hV
  refine r_iconst (v := 1) hC dX0_findFault_0 (by decide) ?_
  refine r_istore_n (ii := 1) (lo1 := [some (rv a0), some (.int 1), none, none, none]) hC dX0_findFault_1 rfl (Nat.le_of_ble_eq_true rfl) (pvR rfl) rfl ?_
  refine r_iconst (v := 0) hC dX0_findFault_2 (by decide) ?_
  refine r_istore_n (ii := 2) (lo1 := [some (rv a0), some (.int 1), some (.int 0), none, none]) hC dX0_findFault_3 rfl (Nat.le_of_ble_eq_true rfl) (pvI rfl) rfl ?_
  obtain ⟨n9, hV⟩ := hV
  exact ok_X0_findFault_4 hC hQ n9 a0 1 0 h hV
set_option maxRecDepth 100000 in
set_option maxHeartbeats 4000000 in
theorem con_X0_findFault {E : Ev} {l0 : Launch} (a0 : Nat) (h : Hp) (K : Int32 → Hp → Prop) (hV : V_X0_findFault a0 h K) : Con E l0 yX0_findFault cX0_findFault 5 (some .int) rm_X0_findFault [rv a0] h (KI K) := by
  refine Con.of (by decide +kernel) (cat_R cat_nil) (Nat.le_of_ble_eq_true rfl) (fun X hC hQ => ?_)
  refine r_sub (lo1 := [some (rv a0), none, none, none, none]) (show lsub [some (rv a0), none, none, none, none] _ from ⟨Or.inr rfl, ⟨Or.inr rfl, ⟨Or.inr rfl, ⟨Or.inr rfl, ⟨Or.inr rfl, trivial⟩⟩⟩⟩⟩) ?_
  exact ok_X0_findFault_0 hC hQ a0 h hV
theorem dX0_init_0 : decode cX0_init 0 = .ok (.aload_n 0, 1) := by decide +kernel
theorem dX0_init_1 : decode cX0_init 1 = .ok (.invokespecial 3, 3) := by decide +kernel
theorem dX0_init_4 : decode cX0_init 4 = .ok (.aload_n 0, 1) := by decide +kernel
theorem dX0_init_5 : decode cX0_init 5 = .ok (.bipush 60, 2) := by decide +kernel
theorem dX0_init_7 : decode cX0_init 7 = .ok (.newarray .char, 2) := by decide +kernel
theorem dX0_init_9 : decode cX0_init 9 = .ok (.putfield 9, 3) := by decide +kernel
theorem dX0_init_12 : decode cX0_init 12 = .ok (.aload_n 0, 1) := by decide +kernel
theorem dX0_init_13 : decode cX0_init 13 = .ok (.iconst 0, 1) := by decide +kernel
theorem dX0_init_14 : decode cX0_init 14 = .ok (.putfield 15, 3) := by decide +kernel
theorem dX0_init_17 : decode cX0_init 17 = .ok (.return_, 1) := by decide +kernel
def rm_X0_init : Room := { frames := 1, cells := 1, slots := 60, locals := 26 }
set_option maxRecDepth 100000 in
set_option maxHeartbeats 4000000 in
theorem ok_X0_init_0 {E : Ev} {X : Xt} {l0 : Launch} {K : Hp → Prop} (hC : Cx E X l0 RX0 cX0_init 1 rm_X0_init) (hQ : CQ E X "<init>" none rm_X0_init (KV K)) (a0 : Nat) (h : Hp) (hV : V_X0_init a0 h K) : WW E X h 0 0 0 [some (rv a0)] [] := by
  unfold V_X0_init at hV
  refine r_aload_n hC dX0_init_0 rfl ?_
  obtain ⟨k9, hV⟩ := hV
  refine r_obj hC dX0_init_1 rfl ml_0_3 obj_i obj_c k9 cs0 ⟨Nat.le_of_ble_eq_true rfl, Nat.le_of_ble_eq_true rfl⟩ ?_
  refine r_aload_n hC dX0_init_4 rfl ?_
  refine r_bipush (v := 60) hC dX0_init_5 (by decide) ?_
  refine r_newarr (kd := 21) (d := 1) (N := 60) hC dX0_init_7 (by decide) rfl (by decide) rfl ka_1 (by decide) (by decide) (by decide) ⟨(Nat.le_of_ble_eq_true rfl), (Nat.le_of_ble_eq_true rfl)⟩ (fun q1 k9 k8 => nmH (fun h1 k7 => ?_))
  replace hV := hV q1 k9 k8 h1 k7
  obtain ⟨k9, hV⟩ := hV
  refine r_putFR hC hQ dX0_init_9 fl_0_9 ft_0 rfl rfl rf_0_0 ty_0_0 lq_0 k9 (nmH (fun h2 k9 => ?_))
  replace hV := hV h2 k9
  refine r_aload_n hC dX0_init_12 rfl ?_
  refine r_iconst (v := 0) hC dX0_init_13 (by decide) ?_
  obtain ⟨k9, hV⟩ := hV
  refine r_putI hC dX0_init_14 fl_0_15 ft_0 rfl rf_0_1 ty_0_1 lq_0 k9 (nmH (fun h3 k9 => ?_))
  replace hV := hV h3 k9
  exact r_vret hC hQ dX0_init_17 (Nat.le_of_ble_eq_true rfl) (Nat.le_of_ble_eq_true rfl) ⟨rfl, hV⟩
set_option maxRecDepth 100000 in
set_option maxHeartbeats 4000000 in
theorem con_X0_init {E : Ev} {l0 : Launch} (a0 : Nat) (h : Hp) (K : Hp → Prop) (hV : V_X0_init a0 h K) : Con E l0 yX0_init cX0_init 1 none rm_X0_init [rv a0] h (KV K) := by
  refine Con.of (by decide +kernel) (cat_R cat_nil) (Nat.le_of_ble_eq_true rfl) (fun X hC hQ => ?_)
  refine r_sub (lo1 := [some (rv a0)]) (show lsub [some (rv a0)] _ from ⟨Or.inr rfl, trivial⟩) ?_
  exact ok_X0_init_0 hC hQ a0 h hV
theorem dX1_formePieces_0 : decode cX1_formePieces 0 = .ok (.iconst 0, 1) := by decide +kernel
theorem dX1_formePieces_1 : decode cX1_formePieces 1 = .ok (.istore_n 1, 1) := by decide +kernel
theorem dX1_formePieces_2 : decode cX1_formePieces 2 = .ok (.iconst 0, 1) := by decide +kernel
theorem dX1_formePieces_3 : decode cX1_formePieces 3 = .ok (.istore_n 2, 1) := by decide +kernel
theorem dX1_formePieces_4 : decode cX1_formePieces 4 = .ok (.iload_n 2, 1) := by decide +kernel
theorem dX1_formePieces_5 : decode cX1_formePieces 5 = .ok (.aload_n 0, 1) := by decide +kernel
theorem dX1_formePieces_6 : decode cX1_formePieces 6 = .ok (.getfield 22, 3) := by decide +kernel
theorem dX1_formePieces_9 : decode cX1_formePieces 9 = .ok (.arraylength, 1) := by decide +kernel
theorem dX1_formePieces_10 : decode cX1_formePieces 10 = .ok (.if_icmp .ge 18, 3) := by decide +kernel
theorem dX1_formePieces_13 : decode cX1_formePieces 13 = .ok (.iload_n 1, 1) := by decide +kernel
theorem dX1_formePieces_14 : decode cX1_formePieces 14 = .ok (.aload_n 0, 1) := by decide +kernel
theorem dX1_formePieces_15 : decode cX1_formePieces 15 = .ok (.getfield 22, 3) := by decide +kernel
theorem dX1_formePieces_18 : decode cX1_formePieces 18 = .ok (.iload_n 2, 1) := by decide +kernel
theorem dX1_formePieces_19 : decode cX1_formePieces 19 = .ok (.iaload, 1) := by decide +kernel
theorem dX1_formePieces_20 : decode cX1_formePieces 20 = .ok (.iadd, 1) := by decide +kernel
theorem dX1_formePieces_21 : decode cX1_formePieces 21 = .ok (.istore_n 1, 1) := by decide +kernel
theorem dX1_formePieces_22 : decode cX1_formePieces 22 = .ok (.iinc 2 1, 3) := by decide +kernel
theorem dX1_formePieces_25 : decode cX1_formePieces 25 = .ok (.goto (-21), 3) := by decide +kernel
theorem dX1_formePieces_28 : decode cX1_formePieces 28 = .ok (.iload_n 1, 1) := by decide +kernel
theorem dX1_formePieces_29 : decode cX1_formePieces 29 = .ok (.ireturn, 1) := by decide +kernel
def rm_X1_formePieces : Room := { frames := 0, cells := 0, slots := 0, locals := 0 }
set_option maxRecDepth 100000 in
set_option maxHeartbeats 4000000 in
theorem ok_X1_formePieces_4 {E : Ev} {X : Xt} {l0 : Launch} {K : Int32 → Hp → Prop} (hC : Cx E X l0 RX1 cX1_formePieces 3 rm_X1_formePieces) (hQ : CQ E X "formePieces" (some .int) rm_X1_formePieces (KI K)) : ∀ (n : Nat) (a0 : Nat) (a1 : Int32) (a2 : Int32) (h : Hp), V_X1_formePieces_4 K n a0 a1 a2 h → WW E X h 0 0 4 [some (rv a0), some (.int a1), some (.int a2)] [] := by
  intro n
  induction n with
  | zero => intro a0 a1 a2 h hV; exact hV.elim
  | succ n ih =>
    intro a0 a1 a2 h hV
    unfold V_X1_formePieces_4 at hV
    refine r_iload_n hC dX1_formePieces_4 rfl ?_
    refine r_aload_n hC dX1_formePieces_5 rfl ?_
    obtain ⟨k9, hV⟩ := hV
    refine r_getR hC dX1_formePieces_6 fl_1_22 rf_1_3 lq_1 k9 ?_
    obtain ⟨k9, hV⟩ := hV
    refine r_alen (kd := 20) hC dX1_formePieces_9 (by decide) k9 ?_
    refine r_icmp_ge (tgt := 28) hC dX1_formePieces_10 (by decide) (fun k9 => ?_) (fun k9 => ?_)
    · replace hV := hV.1 k9
      refine r_iload_n hC dX1_formePieces_28 rfl ?_
      exact r_iret hC hQ dX1_formePieces_29 (Nat.le_of_ble_eq_true rfl) (Nat.le_of_ble_eq_true rfl) ⟨_, rfl, hV⟩
    · replace hV := hV.2 k9
      refine r_iload_n hC dX1_formePieces_13 rfl ?_
      refine r_aload_n hC dX1_formePieces_14 rfl ?_
      obtain ⟨k9, hV⟩ := hV
      refine r_getR hC dX1_formePieces_15 fl_1_22 rf_1_3 lq_1 k9 ?_
      refine r_iload_n hC dX1_formePieces_18 rfl ?_
      obtain ⟨k9, k8, hV⟩ := hV
      refine r_iald (kd := 20) hC dX1_formePieces_19 (by decide) rfl k9 k8 ?_
      refine r_iadd hC dX1_formePieces_20 ?_
      refine r_istore_n (ii := 1) (lo1 := [some (rv a0), some (.int (a1 + (hI h (hR h a0 3) (ix a2)))), some (.int a2)]) hC dX1_formePieces_21 rfl (Nat.le_of_ble_eq_true rfl) (pvR rfl) rfl ?_
      refine r_iinc (v := 1) (lo1 := [some (rv a0), some (.int (a1 + (hI h (hR h a0 3) (ix a2)))), some (.int (a2 + 1))]) hC dX1_formePieces_22 rfl (by decide) (pvI rfl) rfl ?_
      refine r_goto (tgt := 4) hC dX1_formePieces_25 (by decide) ?_
      exact ih a0 (a1 + (hI h (hR h a0 3) (ix a2))) (a2 + 1) h hV
set_option maxRecDepth 100000 in
set_option maxHeartbeats 4000000 in
theorem ok_X1_formePieces_0 {E : Ev} {X : Xt} {l0 : Launch} {K : Int32 → Hp → Prop} (hC : Cx E X l0 RX1 cX1_formePieces 3 rm_X1_formePieces) (hQ : CQ E X "formePieces" (some .int) rm_X1_formePieces (KI K)) (a0 : Nat) (h : Hp) (hV : V_X1_formePieces a0 h K) : WW E X h 0 0 0 [some (rv a0), none, none] [] := by
  unfold V_X1_formePieces at hV
  refine r_iconst (v := 0) hC dX1_formePieces_0 (by decide) ?_
  refine r_istore_n (ii := 1) (lo1 := [some (rv a0), some (.int 0), none]) hC dX1_formePieces_1 rfl (Nat.le_of_ble_eq_true rfl) (pvR rfl) rfl ?_
  refine r_iconst (v := 0) hC dX1_formePieces_2 (by decide) ?_
  refine r_istore_n (ii := 2) (lo1 := [some (rv a0), some (.int 0), some (.int 0)]) hC dX1_formePieces_3 rfl (Nat.le_of_ble_eq_true rfl) (pvI rfl) rfl ?_
  obtain ⟨n9, hV⟩ := hV
  exact ok_X1_formePieces_4 hC hQ n9 a0 0 0 h hV
set_option maxRecDepth 100000 in
set_option maxHeartbeats 4000000 in
theorem con_X1_formePieces {E : Ev} {l0 : Launch} (a0 : Nat) (h : Hp) (K : Int32 → Hp → Prop) (hV : V_X1_formePieces a0 h K) : Con E l0 yX1_formePieces cX1_formePieces 3 (some .int) rm_X1_formePieces [rv a0] h (KI K) := by
  refine Con.of (by decide +kernel) (cat_R cat_nil) (Nat.le_of_ble_eq_true rfl) (fun X hC hQ => ?_)
  refine r_sub (lo1 := [some (rv a0), none, none]) (show lsub [some (rv a0), none, none] _ from ⟨Or.inr rfl, ⟨Or.inr rfl, ⟨Or.inr rfl, trivial⟩⟩⟩) ?_
  exact ok_X1_formePieces_0 hC hQ a0 h hV
theorem dX6_slotOf_0 : decode cX6_slotOf 0 = .ok (.iload_n 0, 1) := by decide +kernel
theorem dX6_slotOf_1 : decode cX6_slotOf 1 = .ok (.bipush 29, 2) := by decide +kernel
theorem dX6_slotOf_3 : decode cX6_slotOf 3 = .ok (.imul, 1) := by decide +kernel
theorem dX6_slotOf_4 : decode cX6_slotOf 4 = .ok (.iload_n 1, 1) := by decide +kernel
theorem dX6_slotOf_5 : decode cX6_slotOf 5 = .ok (.iadd, 1) := by decide +kernel
theorem dX6_slotOf_6 : decode cX6_slotOf 6 = .ok (.ireturn, 1) := by decide +kernel
def rm_X6_slotOf : Room := { frames := 0, cells := 0, slots := 0, locals := 0 }
set_option maxRecDepth 100000 in
set_option maxHeartbeats 4000000 in
theorem ok_X6_slotOf_0 {E : Ev} {X : Xt} {l0 : Launch} {K : Int32 → Hp → Prop} (hC : Cx E X l0 RX6 cX6_slotOf 2 rm_X6_slotOf) (hQ : CQ E X "slotOf" (some .int) rm_X6_slotOf (KI K)) (a0 : Int32) (a1 : Int32) (h : Hp) (hV : V_X6_slotOf a0 a1 h K) : WW E X h 0 0 0 [some (.int a0), some (.int a1)] [] := by
  unfold V_X6_slotOf at hV
  refine r_iload_n hC dX6_slotOf_0 rfl ?_
  refine r_bipush (v := 29) hC dX6_slotOf_1 (by decide) ?_
  refine r_imul hC dX6_slotOf_3 ?_
  refine r_iload_n hC dX6_slotOf_4 rfl ?_
  refine r_iadd hC dX6_slotOf_5 ?_
  exact r_iret hC hQ dX6_slotOf_6 (Nat.le_of_ble_eq_true rfl) (Nat.le_of_ble_eq_true rfl) ⟨_, rfl, hV⟩
set_option maxRecDepth 100000 in
set_option maxHeartbeats 4000000 in
theorem con_X6_slotOf {E : Ev} {l0 : Launch} (a0 : Int32) (a1 : Int32) (h : Hp) (K : Int32 → Hp → Prop) (hV : V_X6_slotOf a0 a1 h K) : Con E l0 yX6_slotOf cX6_slotOf 2 (some .int) rm_X6_slotOf [.int a0, .int a1] h (KI K) := by
  refine Con.of (by decide +kernel) (cat_I (cat_I cat_nil)) (Nat.le_of_ble_eq_true rfl) (fun X hC hQ => ?_)
  refine r_sub (lo1 := [some (.int a0), some (.int a1)]) (show lsub [some (.int a0), some (.int a1)] _ from ⟨Or.inr rfl, ⟨Or.inr rfl, trivial⟩⟩) ?_
  exact ok_X6_slotOf_0 hC hQ a0 a1 h hV
theorem dX1_takenFrom_0 : decode cX1_takenFrom 0 = .ok (.iload_n 1, 1) := by decide +kernel
theorem dX1_takenFrom_1 : decode cX1_takenFrom 1 = .ok (.iload_n 2, 1) := by decide +kernel
theorem dX1_takenFrom_2 : decode cX1_takenFrom 2 = .ok (.invokestatic 37, 3) := by decide +kernel
theorem dX1_takenFrom_5 : decode cX1_takenFrom 5 = .ok (.istore_n 3, 1) := by decide +kernel
theorem dX1_takenFrom_6 : decode cX1_takenFrom 6 = .ok (.iload_n 3, 1) := by decide +kernel
theorem dX1_takenFrom_7 : decode cX1_takenFrom 7 = .ok (.ifCond .lt 21, 3) := by decide +kernel
theorem dX1_takenFrom_10 : decode cX1_takenFrom 10 = .ok (.iload_n 3, 1) := by decide +kernel
theorem dX1_takenFrom_11 : decode cX1_takenFrom 11 = .ok (.aload_n 0, 1) := by decide +kernel
theorem dX1_takenFrom_12 : decode cX1_takenFrom 12 = .ok (.getfield 22, 3) := by decide +kernel
theorem dX1_takenFrom_15 : decode cX1_takenFrom 15 = .ok (.arraylength, 1) := by decide +kernel
theorem dX1_takenFrom_16 : decode cX1_takenFrom 16 = .ok (.if_icmp .ge 12, 3) := by decide +kernel
theorem dX1_takenFrom_19 : decode cX1_takenFrom 19 = .ok (.aload_n 0, 1) := by decide +kernel
theorem dX1_takenFrom_20 : decode cX1_takenFrom 20 = .ok (.getfield 22, 3) := by decide +kernel
theorem dX1_takenFrom_23 : decode cX1_takenFrom 23 = .ok (.iload_n 3, 1) := by decide +kernel
theorem dX1_takenFrom_24 : decode cX1_takenFrom 24 = .ok (.iaload, 1) := by decide +kernel
theorem dX1_takenFrom_25 : decode cX1_takenFrom 25 = .ok (.goto 4, 3) := by decide +kernel
theorem dX1_takenFrom_28 : decode cX1_takenFrom 28 = .ok (.iconst 0, 1) := by decide +kernel
theorem dX1_takenFrom_29 : decode cX1_takenFrom 29 = .ok (.ireturn, 1) := by decide +kernel
def rm_X1_takenFrom : Room := { frames := 1, cells := 0, slots := 0, locals := 21 }
set_option maxRecDepth 100000 in
set_option maxHeartbeats 4000000 in
theorem ok_X1_takenFrom_29 {E : Ev} {X : Xt} {l0 : Launch} {K : Int32 → Hp → Prop} (hC : Cx E X l0 RX1 cX1_takenFrom 4 rm_X1_takenFrom) (hQ : CQ E X "takenFrom" (some .int) rm_X1_takenFrom (KI K)) (s0 : Int32) (h : Hp) (hV : V_X1_takenFrom_29 K s0 h) : WW E X h 0 0 29 [none, none, none, none] [.int s0] := by
  unfold V_X1_takenFrom_29 at hV
  exact r_iret hC hQ dX1_takenFrom_29 (Nat.le_of_ble_eq_true rfl) (Nat.le_of_ble_eq_true rfl) ⟨_, rfl, hV⟩
set_option maxRecDepth 100000 in
set_option maxHeartbeats 4000000 in
theorem ok_X1_takenFrom_28 {E : Ev} {X : Xt} {l0 : Launch} {K : Int32 → Hp → Prop} (hC : Cx E X l0 RX1 cX1_takenFrom 4 rm_X1_takenFrom) (hQ : CQ E X "takenFrom" (some .int) rm_X1_takenFrom (KI K)) (h : Hp) (hV : V_X1_takenFrom_28 K  h) : WW E X h 0 0 28 [none, none, none, none] [] := by
  unfold V_X1_takenFrom_28 at hV
  refine r_iconst (v := 0) hC dX1_takenFrom_28 (by decide) ?_
  exact ok_X1_takenFrom_29 hC hQ 0 h hV
set_option maxRecDepth 100000 in
set_option maxHeartbeats 4000000 in
theorem ok_X1_takenFrom_0 {E : Ev} {X : Xt} {l0 : Launch} {K : Int32 → Hp → Prop} (hC : Cx E X l0 RX1 cX1_takenFrom 4 rm_X1_takenFrom) (hQ : CQ E X "takenFrom" (some .int) rm_X1_takenFrom (KI K)) (a0 : Nat) (a1 : Int32) (a2 : Int32) (h : Hp) (hV : V_X1_takenFrom a0 a1 a2 h K) : WW E X h 0 0 0 [some (rv a0), some (.int a1), some (.int a2), none] [] := by
  unfold V_X1_takenFrom at hV
  refine r_iload_n hC dX1_takenFrom_0 rfl ?_
  refine r_iload_n hC dX1_takenFrom_1 rfl ?_
  refine r_callSN (As := [.int a1, .int a2]) hC dX1_takenFrom_2 rfl cf_X6_slotOf nl_1_37 st_X6_slotOf rfl ⟨(Nat.le_of_ble_eq_true rfl), (Nat.le_of_ble_eq_true rfl), (Nat.le_of_ble_eq_true rfl), (Nat.le_of_ble_eq_true rfl)⟩ cs0 (Nat.le_of_ble_eq_true rfl) (con_X6_slotOf a1 a2 h _ hV) rfl (kI (k := 0) (n := 0) (fun r1 h1 hV => ?_))
  refine r_istore_n (ii := 3) (lo1 := [some (rv a0), some (.int a1), some (.int a2), some (.int r1)]) hC dX1_takenFrom_5 rfl (Nat.le_of_ble_eq_true rfl) (pvI rfl) rfl ?_
  refine r_iload_n hC dX1_takenFrom_6 rfl ?_
  refine r_if_lt (tgt := 28) hC dX1_takenFrom_7 (by decide) (fun k9 => ?_) (fun k9 => ?_)
  · replace hV := hV.1 k9
    refine r_sub (lo1 := [none, none, none, none]) ⟨Or.inl rfl, ⟨Or.inl rfl, ⟨Or.inl rfl, ⟨Or.inl rfl, trivial⟩⟩⟩⟩ ?_
    exact ok_X1_takenFrom_28 hC hQ  h1 hV
  · replace hV := hV.2 k9
    refine r_iload_n hC dX1_takenFrom_10 rfl ?_
    refine r_aload_n hC dX1_takenFrom_11 rfl ?_
    obtain ⟨k9, hV⟩ := hV
    refine r_getR hC dX1_takenFrom_12 fl_1_22 rf_1_3 lq_1 k9 ?_
    obtain ⟨k9, hV⟩ := hV
    refine r_alen (kd := 20) hC dX1_takenFrom_15 (by decide) k9 ?_
    refine r_icmp_ge (tgt := 28) hC dX1_takenFrom_16 (by decide) (fun k9 => ?_) (fun k9 => ?_)
    · replace hV := hV.1 k9
      refine r_sub (lo1 := [none, none, none, none]) ⟨Or.inl rfl, ⟨Or.inl rfl, ⟨Or.inl rfl, ⟨Or.inl rfl, trivial⟩⟩⟩⟩ ?_
      exact ok_X1_takenFrom_28 hC hQ  h1 hV
    · replace hV := hV.2 k9
      refine r_aload_n hC dX1_takenFrom_19 rfl ?_
      obtain ⟨k9, hV⟩ := hV
      refine r_getR hC dX1_takenFrom_20 fl_1_22 rf_1_3 lq_1 k9 ?_
      refine r_iload_n hC dX1_takenFrom_23 rfl ?_
      obtain ⟨k9, k8, hV⟩ := hV
      refine r_iald (kd := 20) hC dX1_takenFrom_24 (by decide) rfl k9 k8 ?_
      refine r_goto (tgt := 29) hC dX1_takenFrom_25 (by decide) ?_
      refine r_sub (lo1 := [none, none, none, none]) ⟨Or.inl rfl, ⟨Or.inl rfl, ⟨Or.inl rfl, ⟨Or.inl rfl, trivial⟩⟩⟩⟩ ?_
      exact ok_X1_takenFrom_29 hC hQ (hI h1 (hR h1 a0 3) (ix r1)) h1 hV
set_option maxRecDepth 100000 in
set_option maxHeartbeats 4000000 in
theorem con_X1_takenFrom {E : Ev} {l0 : Launch} (a0 : Nat) (a1 : Int32) (a2 : Int32) (h : Hp) (K : Int32 → Hp → Prop) (hV : V_X1_takenFrom a0 a1 a2 h K) : Con E l0 yX1_takenFrom cX1_takenFrom 4 (some .int) rm_X1_takenFrom [rv a0, .int a1, .int a2] h (KI K) := by
  refine Con.of (by decide +kernel) (cat_R (cat_I (cat_I cat_nil))) (Nat.le_of_ble_eq_true rfl) (fun X hC hQ => ?_)
  refine r_sub (lo1 := [some (rv a0), some (.int a1), some (.int a2), none]) (show lsub [some (rv a0), some (.int a1), some (.int a2), none] _ from ⟨Or.inr rfl, ⟨Or.inr rfl, ⟨Or.inr rfl, ⟨Or.inr rfl, trivial⟩⟩⟩⟩) ?_
  exact ok_X1_takenFrom_0 hC hQ a0 a1 a2 h hV
theorem dX1_borrowedPieces_0 : decode cX1_borrowedPieces 0 = .ok (.aload_n 0, 1) := by decide +kernel
theorem dX1_borrowedPieces_1 : decode cX1_borrowedPieces 1 = .ok (.invokevirtual 43, 3) := by decide +kernel
theorem dX1_borrowedPieces_4 : decode cX1_borrowedPieces 4 = .ok (.istore_n 1, 1) := by decide +kernel
theorem dX1_borrowedPieces_5 : decode cX1_borrowedPieces 5 = .ok (.iconst 0, 1) := by decide +kernel
theorem dX1_borrowedPieces_6 : decode cX1_borrowedPieces 6 = .ok (.istore_n 2, 1) := by decide +kernel
theorem dX1_borrowedPieces_7 : decode cX1_borrowedPieces 7 = .ok (.iload_n 2, 1) := by decide +kernel
theorem dX1_borrowedPieces_8 : decode cX1_borrowedPieces 8 = .ok (.bipush 29, 2) := by decide +kernel
theorem dX1_borrowedPieces_10 : decode cX1_borrowedPieces 10 = .ok (.if_icmp .ge 24, 3) := by decide +kernel
theorem dX1_borrowedPieces_13 : decode cX1_borrowedPieces 13 = .ok (.iload_n 1, 1) := by decide +kernel
theorem dX1_borrowedPieces_14 : decode cX1_borrowedPieces 14 = .ok (.aload_n 0, 1) := by decide +kernel
theorem dX1_borrowedPieces_15 : decode cX1_borrowedPieces 15 = .ok (.aload_n 0, 1) := by decide +kernel
theorem dX1_borrowedPieces_16 : decode cX1_borrowedPieces 16 = .ok (.getfield 9, 3) := by decide +kernel
theorem dX1_borrowedPieces_19 : decode cX1_borrowedPieces 19 = .ok (.getfield 47, 3) := by decide +kernel
theorem dX1_borrowedPieces_22 : decode cX1_borrowedPieces 22 = .ok (.iload_n 2, 1) := by decide +kernel
theorem dX1_borrowedPieces_23 : decode cX1_borrowedPieces 23 = .ok (.invokevirtual 40, 3) := by decide +kernel
theorem dX1_borrowedPieces_26 : decode cX1_borrowedPieces 26 = .ok (.isub, 1) := by decide +kernel
theorem dX1_borrowedPieces_27 : decode cX1_borrowedPieces 27 = .ok (.istore_n 1, 1) := by decide +kernel
theorem dX1_borrowedPieces_28 : decode cX1_borrowedPieces 28 = .ok (.iinc 2 1, 3) := by decide +kernel
theorem dX1_borrowedPieces_31 : decode cX1_borrowedPieces 31 = .ok (.goto (-24), 3) := by decide +kernel
theorem dX1_borrowedPieces_34 : decode cX1_borrowedPieces 34 = .ok (.iload_n 1, 1) := by decide +kernel
theorem dX1_borrowedPieces_35 : decode cX1_borrowedPieces 35 = .ok (.ireturn, 1) := by decide +kernel
def rm_X1_borrowedPieces : Room := { frames := 2, cells := 0, slots := 0, locals := 44 }
set_option maxRecDepth 100000 in
set_option maxHeartbeats 4000000 in
theorem ok_X1_borrowedPieces_7 {E : Ev} {X : Xt} {l0 : Launch} {K : Int32 → Hp → Prop} (hC : Cx E X l0 RX1 cX1_borrowedPieces 3 rm_X1_borrowedPieces) (hQ : CQ E X "borrowedPieces" (some .int) rm_X1_borrowedPieces (KI K)) : ∀ (n : Nat) (a0 : Nat) (a1 : Int32) (a2 : Int32) (h : Hp), V_X1_borrowedPieces_7 K n a0 a1 a2 h → WW E X h 0 0 7 [some (rv a0), some (.int a1), some (.int a2)] [] := by
  intro n
  induction n with
  | zero => intro a0 a1 a2 h hV; exact hV.elim
  | succ n ih =>
    intro a0 a1 a2 h hV
    unfold V_X1_borrowedPieces_7 at hV
    refine r_iload_n hC dX1_borrowedPieces_7 rfl ?_
    refine r_bipush (v := 29) hC dX1_borrowedPieces_8 (by decide) ?_
    refine r_icmp_ge (tgt := 34) hC dX1_borrowedPieces_10 (by decide) (fun k9 => ?_) (fun k9 => ?_)
    · replace hV := hV.1 k9
      refine r_iload_n hC dX1_borrowedPieces_34 rfl ?_
      exact r_iret hC hQ dX1_borrowedPieces_35 (Nat.le_of_ble_eq_true rfl) (Nat.le_of_ble_eq_true rfl) ⟨_, rfl, hV⟩
    · replace hV := hV.2 k9
      refine r_iload_n hC dX1_borrowedPieces_13 rfl ?_
      refine r_aload_n hC dX1_borrowedPieces_14 rfl ?_
      refine r_aload_n hC dX1_borrowedPieces_15 rfl ?_
      obtain ⟨k9, hV⟩ := hV
      refine r_getR hC dX1_borrowedPieces_16 fl_1_9 rf_1_0 lq_1 k9 ?_
      obtain ⟨k9, hV⟩ := hV
      refine r_getI hC dX1_borrowedPieces_19 fl_1_47 rf_3_0 lq_3 k9 ?_
      refine r_iload_n hC dX1_borrowedPieces_22 rfl ?_
      obtain ⟨k9, hV⟩ := hV
      refine r_callV (ci := 1) (As := [.int (hI h (hR h a0 0) 0), .int a2]) hC dX1_borrowedPieces_23 rfl cf_X1_takenFrom ml_1_40 im_X1_takenFrom sl_X1_takenFrom lq_1 rfl rfl k9 rfl ⟨(Nat.le_of_ble_eq_true rfl), (Nat.le_of_ble_eq_true rfl), (Nat.le_of_ble_eq_true rfl), (Nat.le_of_ble_eq_true rfl)⟩ (csI cs0) (Nat.le_of_ble_eq_true rfl) (con_X1_takenFrom a0 (hI h (hR h a0 0) 0) a2 h _ hV) rfl (kI (k := 0) (n := 0) (fun r1 h1 hV => ?_))
      refine r_isub hC dX1_borrowedPieces_26 ?_
      refine r_istore_n (ii := 1) (lo1 := [some (rv a0), some (.int (a1 - r1)), some (.int a2)]) hC dX1_borrowedPieces_27 rfl (Nat.le_of_ble_eq_true rfl) (pvR rfl) rfl ?_
      refine r_iinc (v := 1) (lo1 := [some (rv a0), some (.int (a1 - r1)), some (.int (a2 + 1))]) hC dX1_borrowedPieces_28 rfl (by decide) (pvI rfl) rfl ?_
      refine r_goto (tgt := 7) hC dX1_borrowedPieces_31 (by decide) ?_
      exact ih a0 (a1 - r1) (a2 + 1) h1 hV
set_option maxRecDepth 100000 in
set_option maxHeartbeats 4000000 in
theorem ok_X1_borrowedPieces_0 {E : Ev} {X : Xt} {l0 : Launch} {K : Int32 → Hp → Prop} (hC : Cx E X l0 RX1 cX1_borrowedPieces 3 rm_X1_borrowedPieces) (hQ : CQ E X "borrowedPieces" (some .int) rm_X1_borrowedPieces (KI K)) (a0 : Nat) (h : Hp) (hV : V_X1_borrowedPieces a0 h K) : WW E X h 0 0 0 [some (rv a0), none, none] [] := by
  unfold V_X1_borrowedPieces at hV
  refine r_aload_n hC dX1_borrowedPieces_0 rfl ?_
  obtain ⟨k9, hV⟩ := hV
  refine r_callV (ci := 1) (As := []) hC dX1_borrowedPieces_1 rfl cf_X1_formePieces ml_1_43 im_X1_formePieces sl_X1_formePieces lq_1 rfl rfl k9 rfl ⟨(Nat.le_of_ble_eq_true rfl), (Nat.le_of_ble_eq_true rfl), (Nat.le_of_ble_eq_true rfl), (Nat.le_of_ble_eq_true rfl)⟩ cs0 (Nat.le_of_ble_eq_true rfl) (con_X1_formePieces a0 h _ hV) rfl (kI (k := 0) (n := 0) (fun r1 h1 hV => ?_))
  refine r_istore_n (ii := 1) (lo1 := [some (rv a0), some (.int r1), none]) hC dX1_borrowedPieces_4 rfl (Nat.le_of_ble_eq_true rfl) (pvR rfl) rfl ?_
  refine r_iconst (v := 0) hC dX1_borrowedPieces_5 (by decide) ?_
  refine r_istore_n (ii := 2) (lo1 := [some (rv a0), some (.int r1), some (.int 0)]) hC dX1_borrowedPieces_6 rfl (Nat.le_of_ble_eq_true rfl) (pvI rfl) rfl ?_
  obtain ⟨n9, hV⟩ := hV
  exact ok_X1_borrowedPieces_7 hC hQ n9 a0 r1 0 h1 hV
set_option maxRecDepth 100000 in
set_option maxHeartbeats 4000000 in
theorem con_X1_borrowedPieces {E : Ev} {l0 : Launch} (a0 : Nat) (h : Hp) (K : Int32 → Hp → Prop) (hV : V_X1_borrowedPieces a0 h K) : Con E l0 yX1_borrowedPieces cX1_borrowedPieces 3 (some .int) rm_X1_borrowedPieces [rv a0] h (KI K) := by
  refine Con.of (by decide +kernel) (cat_R cat_nil) (Nat.le_of_ble_eq_true rfl) (fun X hC hQ => ?_)
  refine r_sub (lo1 := [some (rv a0), none, none]) (show lsub [some (rv a0), none, none] _ from ⟨Or.inr rfl, ⟨Or.inr rfl, ⟨Or.inr rfl, trivial⟩⟩⟩) ?_
  exact ok_X1_borrowedPieces_0 hC hQ a0 h hV
theorem dX1_daysLate_0 : decode cX1_daysLate 0 = .ok (.aload_n 0, 1) := by decide +kernel
theorem dX1_daysLate_1 : decode cX1_daysLate 1 = .ok (.getfield 19, 3) := by decide +kernel
theorem dX1_daysLate_4 : decode cX1_daysLate 4 = .ok (.bipush (-5), 2) := by decide +kernel
theorem dX1_daysLate_6 : decode cX1_daysLate 6 = .ok (.if_icmp .ne 8, 3) := by decide +kernel
theorem dX1_daysLate_9 : decode cX1_daysLate 9 = .ok (.bipush (-5), 2) := by decide +kernel
theorem dX1_daysLate_11 : decode cX1_daysLate 11 = .ok (.goto 19, 3) := by decide +kernel
theorem dX1_daysLate_14 : decode cX1_daysLate 14 = .ok (.iconst 0, 1) := by decide +kernel
theorem dX1_daysLate_15 : decode cX1_daysLate 15 = .ok (.aload_n 0, 1) := by decide +kernel
theorem dX1_daysLate_16 : decode cX1_daysLate 16 = .ok (.getfield 19, 3) := by decide +kernel
theorem dX1_daysLate_19 : decode cX1_daysLate 19 = .ok (.aload_n 0, 1) := by decide +kernel
theorem dX1_daysLate_20 : decode cX1_daysLate 20 = .ok (.getfield 9, 3) := by decide +kernel
theorem dX1_daysLate_23 : decode cX1_daysLate 23 = .ok (.getfield 26, 3) := by decide +kernel
theorem dX1_daysLate_26 : decode cX1_daysLate 26 = .ok (.isub, 1) := by decide +kernel
theorem dX1_daysLate_27 : decode cX1_daysLate 27 = .ok (.invokestatic 31, 3) := by decide +kernel
theorem dX1_daysLate_30 : decode cX1_daysLate 30 = .ok (.ireturn, 1) := by decide +kernel
def rm_X1_daysLate : Room := { frames := 1, cells := 0, slots := 0, locals := 26 }
set_option maxRecDepth 100000 in
set_option maxHeartbeats 4000000 in
theorem ok_X1_daysLate_30 {E : Ev} {X : Xt} {l0 : Launch} {K : Int32 → Hp → Prop} (hC : Cx E X l0 RX1 cX1_daysLate 1 rm_X1_daysLate) (hQ : CQ E X "daysLate" (some .int) rm_X1_daysLate (KI K)) (s0 : Int32) (h : Hp) (hV : V_X1_daysLate_30 K s0 h) : WW E X h 0 0 30 [none] [.int s0] := by
  unfold V_X1_daysLate_30 at hV
  exact r_iret hC hQ dX1_daysLate_30 (Nat.le_of_ble_eq_true rfl) (Nat.le_of_ble_eq_true rfl) ⟨_, rfl, hV⟩
set_option maxRecDepth 100000 in
set_option maxHeartbeats 4000000 in
theorem ok_X1_daysLate_0 {E : Ev} {X : Xt} {l0 : Launch} {K : Int32 → Hp → Prop} (hC : Cx E X l0 RX1 cX1_daysLate 1 rm_X1_daysLate) (hQ : CQ E X "daysLate" (some .int) rm_X1_daysLate (KI K)) (a0 : Nat) (h : Hp) (hV : V_X1_daysLate a0 h K) : WW E X h 0 0 0 [some (rv a0)] [] := by
  unfold V_X1_daysLate at hV
  refine r_aload_n hC dX1_daysLate_0 rfl ?_
  obtain ⟨k9, hV⟩ := hV
  refine r_getI hC dX1_daysLate_1 fl_1_19 rf_1_2 lq_1 k9 ?_
  refine r_bipush (v := (-5)) hC dX1_daysLate_4 (by decide) ?_
  refine r_icmp_ne (tgt := 14) hC dX1_daysLate_6 (by decide) (fun k9 => ?_) (fun k9 => ?_)
  · replace hV := hV.1 k9
    refine r_iconst (v := 0) hC dX1_daysLate_14 (by decide) ?_
    refine r_aload_n hC dX1_daysLate_15 rfl ?_
    obtain ⟨k9, hV⟩ := hV
    refine r_getI hC dX1_daysLate_16 fl_1_19 rf_1_2 lq_1 k9 ?_
    refine r_aload_n hC dX1_daysLate_19 rfl ?_
    obtain ⟨k9, hV⟩ := hV
    refine r_getR hC dX1_daysLate_20 fl_1_9 rf_1_0 lq_1 k9 ?_
    obtain ⟨k9, hV⟩ := hV
    refine r_getI hC dX1_daysLate_23 fl_1_26 rf_3_2 lq_3 k9 ?_
    refine r_isub hC dX1_daysLate_26 ?_
    refine r_max hC dX1_daysLate_27 rfl ml_1_31 mmax_s mth_i mmax_c cs0 ⟨Nat.le_of_ble_eq_true rfl, Nat.le_of_ble_eq_true rfl, Nat.le_of_ble_eq_true rfl, Nat.le_of_ble_eq_true rfl⟩ ?_
    refine r_sub (lo1 := [none]) ⟨Or.inl rfl, trivial⟩ ?_
    exact ok_X1_daysLate_30 hC hQ (if 0 < (hI h a0 2) - (hI h (hR h a0 0) 2) then (hI h a0 2) - (hI h (hR h a0 0) 2) else 0) h hV
  · replace hV := hV.2 k9
    refine r_bipush (v := (-5)) hC dX1_daysLate_9 (by decide) ?_
    refine r_goto (tgt := 30) hC dX1_daysLate_11 (by decide) ?_
    refine r_sub (lo1 := [none]) ⟨Or.inl rfl, trivial⟩ ?_
    exact ok_X1_daysLate_30 hC hQ (-5) h hV
set_option maxRecDepth 100000 in
set_option maxHeartbeats 4000000 in
theorem con_X1_daysLate {E : Ev} {l0 : Launch} (a0 : Nat) (h : Hp) (K : Int32 → Hp → Prop) (hV : V_X1_daysLate a0 h K) : Con E l0 yX1_daysLate cX1_daysLate 1 (some .int) rm_X1_daysLate [rv a0] h (KI K) := by
  refine Con.of (by decide +kernel) (cat_R cat_nil) (Nat.le_of_ble_eq_true rfl) (fun X hC hQ => ?_)
  refine r_sub (lo1 := [some (rv a0)]) (show lsub [some (rv a0)] _ from ⟨Or.inr rfl, trivial⟩) ?_
  exact ok_X1_daysLate_0 hC hQ a0 h hV
theorem dX1_takenInAll_0 : decode cX1_takenInAll 0 = .ok (.iconst 0, 1) := by decide +kernel
theorem dX1_takenInAll_1 : decode cX1_takenInAll 1 = .ok (.istore_n 2, 1) := by decide +kernel
theorem dX1_takenInAll_2 : decode cX1_takenInAll 2 = .ok (.iconst 0, 1) := by decide +kernel
theorem dX1_takenInAll_3 : decode cX1_takenInAll 3 = .ok (.istore_n 3, 1) := by decide +kernel
theorem dX1_takenInAll_4 : decode cX1_takenInAll 4 = .ok (.iload_n 3, 1) := by decide +kernel
theorem dX1_takenInAll_5 : decode cX1_takenInAll 5 = .ok (.bipush 6, 2) := by decide +kernel
theorem dX1_takenInAll_7 : decode cX1_takenInAll 7 = .ok (.if_icmp .ge 18, 3) := by decide +kernel
theorem dX1_takenInAll_10 : decode cX1_takenInAll 10 = .ok (.iload_n 2, 1) := by decide +kernel
theorem dX1_takenInAll_11 : decode cX1_takenInAll 11 = .ok (.aload_n 0, 1) := by decide +kernel
theorem dX1_takenInAll_12 : decode cX1_takenInAll 12 = .ok (.iload_n 3, 1) := by decide +kernel
theorem dX1_takenInAll_13 : decode cX1_takenInAll 13 = .ok (.iload_n 1, 1) := by decide +kernel
theorem dX1_takenInAll_14 : decode cX1_takenInAll 14 = .ok (.invokevirtual 40, 3) := by decide +kernel
theorem dX1_takenInAll_17 : decode cX1_takenInAll 17 = .ok (.iadd, 1) := by decide +kernel
theorem dX1_takenInAll_18 : decode cX1_takenInAll 18 = .ok (.istore_n 2, 1) := by decide +kernel
theorem dX1_takenInAll_19 : decode cX1_takenInAll 19 = .ok (.iinc 3 1, 3) := by decide +kernel
theorem dX1_takenInAll_22 : decode cX1_takenInAll 22 = .ok (.goto (-18), 3) := by decide +kernel
theorem dX1_takenInAll_25 : decode cX1_takenInAll 25 = .ok (.iload_n 2, 1) := by decide +kernel
theorem dX1_takenInAll_26 : decode cX1_takenInAll 26 = .ok (.ireturn, 1) := by decide +kernel
def rm_X1_takenInAll : Room := { frames := 2, cells := 0, slots := 0, locals := 44 }
set_option maxRecDepth 100000 in
set_option maxHeartbeats 4000000 in
theorem ok_X1_takenInAll_4 {E : Ev} {X : Xt} {l0 : Launch} {K : Int32 → Hp → Prop} (hC : Cx E X l0 RX1 cX1_takenInAll 4 rm_X1_takenInAll) (hQ : CQ E X "takenInAll" (some .int) rm_X1_takenInAll (KI K)) : ∀ (n : Nat) (a0 : Nat) (a1 : Int32) (a2 : Int32) (a3 : Int32) (h : Hp), V_X1_takenInAll_4 K n a0 a1 a2 a3 h → WW E X h 0 0 4 [some (rv a0), some (.int a1), some (.int a2), some (.int a3)] [] := by
  intro n
  induction n with
  | zero => intro a0 a1 a2 a3 h hV; exact hV.elim
  | succ n ih =>
    intro a0 a1 a2 a3 h hV
    unfold V_X1_takenInAll_4 at hV
    refine r_iload_n hC dX1_takenInAll_4 rfl ?_
    refine r_bipush (v := 6) hC dX1_takenInAll_5 (by decide) ?_
    refine r_icmp_ge (tgt := 25) hC dX1_takenInAll_7 (by decide) (fun k9 => ?_) (fun k9 => ?_)
    · replace hV := hV.1 k9
      refine r_iload_n hC dX1_takenInAll_25 rfl ?_
      exact r_iret hC hQ dX1_takenInAll_26 (Nat.le_of_ble_eq_true rfl) (Nat.le_of_ble_eq_true rfl) ⟨_, rfl, hV⟩
    · replace hV := hV.2 k9
      refine r_iload_n hC dX1_takenInAll_10 rfl ?_
      refine r_aload_n hC dX1_takenInAll_11 rfl ?_
      refine r_iload_n hC dX1_takenInAll_12 rfl ?_
      refine r_iload_n hC dX1_takenInAll_13 rfl ?_
      obtain ⟨k9, hV⟩ := hV
      refine r_callV (ci := 1) (As := [.int a3, .int a1]) hC dX1_takenInAll_14 rfl cf_X1_takenFrom ml_1_40 im_X1_takenFrom sl_X1_takenFrom lq_1 rfl rfl k9 rfl ⟨(Nat.le_of_ble_eq_true rfl), (Nat.le_of_ble_eq_true rfl), (Nat.le_of_ble_eq_true rfl), (Nat.le_of_ble_eq_true rfl)⟩ (csI cs0) (Nat.le_of_ble_eq_true rfl) (con_X1_takenFrom a0 a3 a1 h _ hV) rfl (kI (k := 0) (n := 0) (fun r1 h1 hV => ?_))
      refine r_iadd hC dX1_takenInAll_17 ?_
      refine r_istore_n (ii := 2) (lo1 := [some (rv a0), some (.int a1), some (.int (a2 + r1)), some (.int a3)]) hC dX1_takenInAll_18 rfl (Nat.le_of_ble_eq_true rfl) (pvI rfl) rfl ?_
      refine r_iinc (v := 1) (lo1 := [some (rv a0), some (.int a1), some (.int (a2 + r1)), some (.int (a3 + 1))]) hC dX1_takenInAll_19 rfl (by decide) (pvI rfl) rfl ?_
      refine r_goto (tgt := 4) hC dX1_takenInAll_22 (by decide) ?_
      exact ih a0 a1 (a2 + r1) (a3 + 1) h1 hV
set_option maxRecDepth 100000 in
set_option maxHeartbeats 4000000 in
theorem ok_X1_takenInAll_0 {E : Ev} {X : Xt} {l0 : Launch} {K : Int32 → Hp → Prop} (hC : Cx E X l0 RX1 cX1_takenInAll 4 rm_X1_takenInAll) (hQ : CQ E X "takenInAll" (some .int) rm_X1_takenInAll (KI K)) (a0 : Nat) (a1 : Int32) (h : Hp) (hV : V_X1_takenInAll a0 a1 h K) : WW E X h 0 0 0 [some (rv a0), some (.int a1), none, none] [] := by
  unfold V_X1_takenInAll at hV
  refine r_iconst (v := 0) hC dX1_takenInAll_0 (by decide) ?_
  refine r_istore_n (ii := 2) (lo1 := [some (rv a0), some (.int a1), some (.int 0), none]) hC dX1_takenInAll_1 rfl (Nat.le_of_ble_eq_true rfl) (pvI rfl) rfl ?_
  refine r_iconst (v := 0) hC dX1_takenInAll_2 (by decide) ?_
  refine r_istore_n (ii := 3) (lo1 := [some (rv a0), some (.int a1), some (.int 0), some (.int 0)]) hC dX1_takenInAll_3 rfl (Nat.le_of_ble_eq_true rfl) (pvI rfl) rfl ?_
  obtain ⟨n9, hV⟩ := hV
  exact ok_X1_takenInAll_4 hC hQ n9 a0 a1 0 0 h hV
set_option maxRecDepth 100000 in
set_option maxHeartbeats 4000000 in
theorem con_X1_takenInAll {E : Ev} {l0 : Launch} (a0 : Nat) (a1 : Int32) (h : Hp) (K : Int32 → Hp → Prop) (hV : V_X1_takenInAll a0 a1 h K) : Con E l0 yX1_takenInAll cX1_takenInAll 4 (some .int) rm_X1_takenInAll [rv a0, .int a1] h (KI K) := by
  refine Con.of (by decide +kernel) (cat_R (cat_I cat_nil)) (Nat.le_of_ble_eq_true rfl) (fun X hC hQ => ?_)
  refine r_sub (lo1 := [some (rv a0), some (.int a1), none, none]) (show lsub [some (rv a0), some (.int a1), none, none] _ from ⟨Or.inr rfl, ⟨Or.inr rfl, ⟨Or.inr rfl, ⟨Or.inr rfl, trivial⟩⟩⟩⟩) ?_
  exact ok_X1_takenInAll_0 hC hQ a0 a1 h hV
theorem dX6_widthOf_0 : decode cX6_widthOf 0 = .ok (.iload_n 0, 1) := by decide +kernel
theorem dX6_widthOf_1 : decode cX6_widthOf 1 = .ok (.tableswitch 33 26 28 #[27, 29, 31], 27) := by decide +kernel
theorem dX6_widthOf_28 : decode cX6_widthOf 28 = .ok (.iconst 4, 1) := by decide +kernel
theorem dX6_widthOf_29 : decode cX6_widthOf 29 = .ok (.ireturn, 1) := by decide +kernel
theorem dX6_widthOf_30 : decode cX6_widthOf 30 = .ok (.iconst 2, 1) := by decide +kernel
theorem dX6_widthOf_31 : decode cX6_widthOf 31 = .ok (.ireturn, 1) := by decide +kernel
theorem dX6_widthOf_32 : decode cX6_widthOf 32 = .ok (.iconst 1, 1) := by decide +kernel
theorem dX6_widthOf_33 : decode cX6_widthOf 33 = .ok (.ireturn, 1) := by decide +kernel
theorem dX6_widthOf_34 : decode cX6_widthOf 34 = .ok (.iconst 2, 1) := by decide +kernel
theorem dX6_widthOf_35 : decode cX6_widthOf 35 = .ok (.iload_n 0, 1) := by decide +kernel
theorem dX6_widthOf_36 : decode cX6_widthOf 36 = .ok (.iconst 5, 1) := by decide +kernel
theorem dX6_widthOf_37 : decode cX6_widthOf 37 = .ok (.irem, 1) := by decide +kernel
theorem dX6_widthOf_38 : decode cX6_widthOf 38 = .ok (.iadd, 1) := by decide +kernel
theorem dX6_widthOf_39 : decode cX6_widthOf 39 = .ok (.ireturn, 1) := by decide +kernel
def rm_X6_widthOf : Room := { frames := 0, cells := 0, slots := 0, locals := 0 }
set_option maxRecDepth 100000 in
set_option maxHeartbeats 4000000 in
theorem ok_X6_widthOf_0 {E : Ev} {X : Xt} {l0 : Launch} {K : Int32 → Hp → Prop} (hC : Cx E X l0 RX6 cX6_widthOf 1 rm_X6_widthOf) (hQ : CQ E X "widthOf" (some .int) rm_X6_widthOf (KI K)) (a0 : Int32) (h : Hp) (hV : V_X6_widthOf a0 h K) : WW E X h 0 0 0 [some (.int a0)] [] := by
  unfold V_X6_widthOf at hV
  refine r_iload_n hC dX6_widthOf_0 rfl ?_
  rcases (show a0.toInt = 26 ∨ a0.toInt = 27 ∨ a0.toInt = 28 ∨ (a0.toInt < 26 ∨ 28 < a0.toInt) by omega) with k9 | k9 | k9 | k9
  · replace hV := hV.1 k9
    refine r_tabIn (tgt := 28) hC dX6_widthOf_1 0 (by omega) (by decide) rfl (by decide) ?_
    refine r_iconst (v := 4) hC dX6_widthOf_28 (by decide) ?_
    exact r_iret hC hQ dX6_widthOf_29 (Nat.le_of_ble_eq_true rfl) (Nat.le_of_ble_eq_true rfl) ⟨_, rfl, hV⟩
  · replace hV := hV.2.1 k9
    refine r_tabIn (tgt := 30) hC dX6_widthOf_1 1 (by omega) (by decide) rfl (by decide) ?_
    refine r_iconst (v := 2) hC dX6_widthOf_30 (by decide) ?_
    exact r_iret hC hQ dX6_widthOf_31 (Nat.le_of_ble_eq_true rfl) (Nat.le_of_ble_eq_true rfl) ⟨_, rfl, hV⟩
  · replace hV := hV.2.2.1 k9
    refine r_tabIn (tgt := 32) hC dX6_widthOf_1 2 (by omega) (by decide) rfl (by decide) ?_
    refine r_iconst (v := 1) hC dX6_widthOf_32 (by decide) ?_
    exact r_iret hC hQ dX6_widthOf_33 (Nat.le_of_ble_eq_true rfl) (Nat.le_of_ble_eq_true rfl) ⟨_, rfl, hV⟩
  · replace hV := hV.2.2.2 k9
    refine r_tabOut (tgt := 34) hC dX6_widthOf_1 k9 (by decide) ?_
    refine r_iconst (v := 2) hC dX6_widthOf_34 (by decide) ?_
    refine r_iload_n hC dX6_widthOf_35 rfl ?_
    refine r_iconst (v := 5) hC dX6_widthOf_36 (by decide) ?_
    refine r_irem hC dX6_widthOf_37 (by decide) ?_
    refine r_iadd hC dX6_widthOf_38 ?_
    exact r_iret hC hQ dX6_widthOf_39 (Nat.le_of_ble_eq_true rfl) (Nat.le_of_ble_eq_true rfl) ⟨_, rfl, hV⟩
set_option maxRecDepth 100000 in
set_option maxHeartbeats 4000000 in
theorem con_X6_widthOf {E : Ev} {l0 : Launch} (a0 : Int32) (h : Hp) (K : Int32 → Hp → Prop) (hV : V_X6_widthOf a0 h K) : Con E l0 yX6_widthOf cX6_widthOf 1 (some .int) rm_X6_widthOf [.int a0] h (KI K) := by
  refine Con.of (by decide +kernel) (cat_I cat_nil) (Nat.le_of_ble_eq_true rfl) (fun X hC hQ => ?_)
  refine r_sub (lo1 := [some (.int a0)]) (show lsub [some (.int a0)] _ from ⟨Or.inr rfl, trivial⟩) ?_
  exact ok_X6_widthOf_0 hC hQ a0 h hV
theorem dX1_formeMetal_0 : decode cX1_formeMetal 0 = .ok (.iconst 0, 1) := by decide +kernel
theorem dX1_formeMetal_1 : decode cX1_formeMetal 1 = .ok (.istore_n 1, 1) := by decide +kernel
theorem dX1_formeMetal_2 : decode cX1_formeMetal 2 = .ok (.iconst 0, 1) := by decide +kernel
theorem dX1_formeMetal_3 : decode cX1_formeMetal 3 = .ok (.istore_n 2, 1) := by decide +kernel
theorem dX1_formeMetal_4 : decode cX1_formeMetal 4 = .ok (.iload_n 2, 1) := by decide +kernel
theorem dX1_formeMetal_5 : decode cX1_formeMetal 5 = .ok (.bipush 29, 2) := by decide +kernel
theorem dX1_formeMetal_7 : decode cX1_formeMetal 7 = .ok (.if_icmp .ge 22, 3) := by decide +kernel
theorem dX1_formeMetal_10 : decode cX1_formeMetal 10 = .ok (.iload_n 1, 1) := by decide +kernel
theorem dX1_formeMetal_11 : decode cX1_formeMetal 11 = .ok (.aload_n 0, 1) := by decide +kernel
theorem dX1_formeMetal_12 : decode cX1_formeMetal 12 = .ok (.iload_n 2, 1) := by decide +kernel
theorem dX1_formeMetal_13 : decode cX1_formeMetal 13 = .ok (.invokevirtual 50, 3) := by decide +kernel
theorem dX1_formeMetal_16 : decode cX1_formeMetal 16 = .ok (.iload_n 2, 1) := by decide +kernel
theorem dX1_formeMetal_17 : decode cX1_formeMetal 17 = .ok (.invokestatic 54, 3) := by decide +kernel
theorem dX1_formeMetal_20 : decode cX1_formeMetal 20 = .ok (.imul, 1) := by decide +kernel
theorem dX1_formeMetal_21 : decode cX1_formeMetal 21 = .ok (.iadd, 1) := by decide +kernel
theorem dX1_formeMetal_22 : decode cX1_formeMetal 22 = .ok (.istore_n 1, 1) := by decide +kernel
theorem dX1_formeMetal_23 : decode cX1_formeMetal 23 = .ok (.iinc 2 1, 3) := by decide +kernel
theorem dX1_formeMetal_26 : decode cX1_formeMetal 26 = .ok (.goto (-22), 3) := by decide +kernel
theorem dX1_formeMetal_29 : decode cX1_formeMetal 29 = .ok (.iload_n 1, 1) := by decide +kernel
theorem dX1_formeMetal_30 : decode cX1_formeMetal 30 = .ok (.ireturn, 1) := by decide +kernel
def rm_X1_formeMetal : Room := { frames := 3, cells := 0, slots := 0, locals := 67 }
set_option maxRecDepth 100000 in
set_option maxHeartbeats 4000000 in
theorem ok_X1_formeMetal_4 {E : Ev} {X : Xt} {l0 : Launch} {K : Int32 → Hp → Prop} (hC : Cx E X l0 RX1 cX1_formeMetal 3 rm_X1_formeMetal) (hQ : CQ E X "formeMetal" (some .int) rm_X1_formeMetal (KI K)) : ∀ (n : Nat) (a0 : Nat) (a1 : Int32) (a2 : Int32) (h : Hp), V_X1_formeMetal_4 K n a0 a1 a2 h → WW E X h 0 0 4 [some (rv a0), some (.int a1), some (.int a2)] [] := by
  intro n
  induction n with
  | zero => intro a0 a1 a2 h hV; exact hV.elim
  | succ n ih =>
    intro a0 a1 a2 h hV
    unfold V_X1_formeMetal_4 at hV
    refine r_iload_n hC dX1_formeMetal_4 rfl ?_
    refine r_bipush (v := 29) hC dX1_formeMetal_5 (by decide) ?_
    refine r_icmp_ge (tgt := 29) hC dX1_formeMetal_7 (by decide) (fun k9 => ?_) (fun k9 => ?_)
    · replace hV := hV.1 k9
      refine r_iload_n hC dX1_formeMetal_29 rfl ?_
      exact r_iret hC hQ dX1_formeMetal_30 (Nat.le_of_ble_eq_true rfl) (Nat.le_of_ble_eq_true rfl) ⟨_, rfl, hV⟩
    · replace hV := hV.2 k9
      refine r_iload_n hC dX1_formeMetal_10 rfl ?_
      refine r_aload_n hC dX1_formeMetal_11 rfl ?_
      refine r_iload_n hC dX1_formeMetal_12 rfl ?_
      obtain ⟨k9, hV⟩ := hV
      refine r_callV (ci := 1) (As := [.int a2]) hC dX1_formeMetal_13 rfl cf_X1_takenInAll ml_1_50 im_X1_takenInAll sl_X1_takenInAll lq_1 rfl rfl k9 rfl ⟨(Nat.le_of_ble_eq_true rfl), (Nat.le_of_ble_eq_true rfl), (Nat.le_of_ble_eq_true rfl), (Nat.le_of_ble_eq_true rfl)⟩ (csI cs0) (Nat.le_of_ble_eq_true rfl) (con_X1_takenInAll a0 a2 h _ hV) rfl (kI (k := 0) (n := 0) (fun r1 h1 hV => ?_))
      refine r_iload_n hC dX1_formeMetal_16 rfl ?_
      refine r_callSN (As := [.int a2]) hC dX1_formeMetal_17 rfl cf_X6_widthOf nl_1_54 st_X6_widthOf rfl ⟨(Nat.le_of_ble_eq_true rfl), (Nat.le_of_ble_eq_true rfl), (Nat.le_of_ble_eq_true rfl), (Nat.le_of_ble_eq_true rfl)⟩ (csI (csI cs0)) (Nat.le_of_ble_eq_true rfl) (con_X6_widthOf a2 h1 _ hV) rfl (kI (k := 0) (n := 0) (fun r2 h2 hV => ?_))
      refine r_imul hC dX1_formeMetal_20 ?_
      refine r_iadd hC dX1_formeMetal_21 ?_
      refine r_istore_n (ii := 1) (lo1 := [some (rv a0), some (.int (a1 + (r1 * r2))), some (.int a2)]) hC dX1_formeMetal_22 rfl (Nat.le_of_ble_eq_true rfl) (pvR rfl) rfl ?_
      refine r_iinc (v := 1) (lo1 := [some (rv a0), some (.int (a1 + (r1 * r2))), some (.int (a2 + 1))]) hC dX1_formeMetal_23 rfl (by decide) (pvI rfl) rfl ?_
      refine r_goto (tgt := 4) hC dX1_formeMetal_26 (by decide) ?_
      exact ih a0 (a1 + (r1 * r2)) (a2 + 1) h2 hV
set_option maxRecDepth 100000 in
set_option maxHeartbeats 4000000 in
theorem ok_X1_formeMetal_0 {E : Ev} {X : Xt} {l0 : Launch} {K : Int32 → Hp → Prop} (hC : Cx E X l0 RX1 cX1_formeMetal 3 rm_X1_formeMetal) (hQ : CQ E X "formeMetal" (some .int) rm_X1_formeMetal (KI K)) (a0 : Nat) (h : Hp) (hV : V_X1_formeMetal a0 h K) : WW E X h 0 0 0 [some (rv a0), none, none] [] := by
  unfold V_X1_formeMetal at hV
  refine r_iconst (v := 0) hC dX1_formeMetal_0 (by decide) ?_
  refine r_istore_n (ii := 1) (lo1 := [some (rv a0), some (.int 0), none]) hC dX1_formeMetal_1 rfl (Nat.le_of_ble_eq_true rfl) (pvR rfl) rfl ?_
  refine r_iconst (v := 0) hC dX1_formeMetal_2 (by decide) ?_
  refine r_istore_n (ii := 2) (lo1 := [some (rv a0), some (.int 0), some (.int 0)]) hC dX1_formeMetal_3 rfl (Nat.le_of_ble_eq_true rfl) (pvI rfl) rfl ?_
  obtain ⟨n9, hV⟩ := hV
  exact ok_X1_formeMetal_4 hC hQ n9 a0 0 0 h hV
set_option maxRecDepth 100000 in
set_option maxHeartbeats 4000000 in
theorem con_X1_formeMetal {E : Ev} {l0 : Launch} (a0 : Nat) (h : Hp) (K : Int32 → Hp → Prop) (hV : V_X1_formeMetal a0 h K) : Con E l0 yX1_formeMetal cX1_formeMetal 3 (some .int) rm_X1_formeMetal [rv a0] h (KI K) := by
  refine Con.of (by decide +kernel) (cat_R cat_nil) (Nat.le_of_ble_eq_true rfl) (fun X hC hQ => ?_)
  refine r_sub (lo1 := [some (rv a0), none, none]) (show lsub [some (rv a0), none, none] _ from ⟨Or.inr rfl, ⟨Or.inr rfl, ⟨Or.inr rfl, trivial⟩⟩⟩) ?_
  exact ok_X1_formeMetal_0 hC hQ a0 h hV
theorem dX1_hasForme_0 : decode cX1_hasForme 0 = .ok (.aload_n 0, 1) := by decide +kernel
theorem dX1_hasForme_1 : decode cX1_hasForme 1 = .ok (.getfield 15, 3) := by decide +kernel
theorem dX1_hasForme_4 : decode cX1_hasForme 4 = .ok (.iconst 1, 1) := by decide +kernel
theorem dX1_hasForme_5 : decode cX1_hasForme 5 = .ok (.if_icmp .eq 11, 3) := by decide +kernel
theorem dX1_hasForme_8 : decode cX1_hasForme 8 = .ok (.aload_n 0, 1) := by decide +kernel
theorem dX1_hasForme_9 : decode cX1_hasForme 9 = .ok (.getfield 15, 3) := by decide +kernel
theorem dX1_hasForme_12 : decode cX1_hasForme 12 = .ok (.iconst 2, 1) := by decide +kernel
theorem dX1_hasForme_13 : decode cX1_hasForme 13 = .ok (.if_icmp .ne 7, 3) := by decide +kernel
theorem dX1_hasForme_16 : decode cX1_hasForme 16 = .ok (.iconst 1, 1) := by decide +kernel
theorem dX1_hasForme_17 : decode cX1_hasForme 17 = .ok (.goto 4, 3) := by decide +kernel
theorem dX1_hasForme_20 : decode cX1_hasForme 20 = .ok (.iconst 0, 1) := by decide +kernel
theorem dX1_hasForme_21 : decode cX1_hasForme 21 = .ok (.ireturn, 1) := by decide +kernel
def rm_X1_hasForme : Room := { frames := 0, cells := 0, slots := 0, locals := 0 }
set_option maxRecDepth 100000 in
set_option maxHeartbeats 4000000 in
theorem ok_X1_hasForme_21 {E : Ev} {X : Xt} {l0 : Launch} {K : Int32 → Hp → Prop} (hC : Cx E X l0 RX1 cX1_hasForme 1 rm_X1_hasForme) (hQ : CQ E X "hasForme" (some .boolean) rm_X1_hasForme (KI K)) (s0 : Int32) (h : Hp) (hV : V_X1_hasForme_21 K s0 h) : WW E X h 0 0 21 [none] [.int s0] := by
  unfold V_X1_hasForme_21 at hV
  exact r_zret hC hQ dX1_hasForme_21 (Nat.le_of_ble_eq_true rfl) (Nat.le_of_ble_eq_true rfl) hV.1 ⟨_, rfl, hV.2⟩
set_option maxRecDepth 100000 in
set_option maxHeartbeats 4000000 in
theorem ok_X1_hasForme_16 {E : Ev} {X : Xt} {l0 : Launch} {K : Int32 → Hp → Prop} (hC : Cx E X l0 RX1 cX1_hasForme 1 rm_X1_hasForme) (hQ : CQ E X "hasForme" (some .boolean) rm_X1_hasForme (KI K)) (h : Hp) (hV : V_X1_hasForme_16 K  h) : WW E X h 0 0 16 [none] [] := by
  unfold V_X1_hasForme_16 at hV
  refine r_iconst (v := 1) hC dX1_hasForme_16 (by decide) ?_
  refine r_goto (tgt := 21) hC dX1_hasForme_17 (by decide) ?_
  exact ok_X1_hasForme_21 hC hQ 1 h hV
set_option maxRecDepth 100000 in
set_option maxHeartbeats 4000000 in
theorem ok_X1_hasForme_0 {E : Ev} {X : Xt} {l0 : Launch} {K : Int32 → Hp → Prop} (hC : Cx E X l0 RX1 cX1_hasForme 1 rm_X1_hasForme) (hQ : CQ E X "hasForme" (some .boolean) rm_X1_hasForme (KI K)) (a0 : Nat) (h : Hp) (hV : V_X1_hasForme a0 h K) : WW E X h 0 0 0 [some (rv a0)] [] := by
  unfold V_X1_hasForme at hV
  refine r_aload_n hC dX1_hasForme_0 rfl ?_
  obtain ⟨k9, hV⟩ := hV
  refine r_getI hC dX1_hasForme_1 fl_1_15 rf_1_1 lq_1 k9 ?_
  refine r_iconst (v := 1) hC dX1_hasForme_4 (by decide) ?_
  refine r_icmp_eq (tgt := 16) hC dX1_hasForme_5 (by decide) (fun k9 => ?_) (fun k9 => ?_)
  · replace hV := hV.1 k9
    refine r_sub (lo1 := [none]) ⟨Or.inl rfl, trivial⟩ ?_
    exact ok_X1_hasForme_16 hC hQ  h hV
  · replace hV := hV.2 k9
    refine r_aload_n hC dX1_hasForme_8 rfl ?_
    obtain ⟨k9, hV⟩ := hV
    refine r_getI hC dX1_hasForme_9 fl_1_15 rf_1_1 lq_1 k9 ?_
    refine r_iconst (v := 2) hC dX1_hasForme_12 (by decide) ?_
    refine r_icmp_ne (tgt := 20) hC dX1_hasForme_13 (by decide) (fun k9 => ?_) (fun k9 => ?_)
    · replace hV := hV.1 k9
      refine r_iconst (v := 0) hC dX1_hasForme_20 (by decide) ?_
      refine r_sub (lo1 := [none]) ⟨Or.inl rfl, trivial⟩ ?_
      exact ok_X1_hasForme_21 hC hQ 0 h hV
    · replace hV := hV.2 k9
      refine r_sub (lo1 := [none]) ⟨Or.inl rfl, trivial⟩ ?_
      exact ok_X1_hasForme_16 hC hQ  h hV
set_option maxRecDepth 100000 in
set_option maxHeartbeats 4000000 in
theorem con_X1_hasForme {E : Ev} {l0 : Launch} (a0 : Nat) (h : Hp) (K : Int32 → Hp → Prop) (hV : V_X1_hasForme a0 h K) : Con E l0 yX1_hasForme cX1_hasForme 1 (some .boolean) rm_X1_hasForme [rv a0] h (KI K) := by
  refine Con.of (by decide +kernel) (cat_R cat_nil) (Nat.le_of_ble_eq_true rfl) (fun X hC hQ => ?_)
  refine r_sub (lo1 := [some (rv a0)]) (show lsub [some (rv a0)] _ from ⟨Or.inr rfl, trivial⟩) ?_
  exact ok_X1_hasForme_0 hC hQ a0 h hV
theorem dX1_init_0 : decode cX1_init 0 = .ok (.aload_n 0, 1) := by decide +kernel
theorem dX1_init_1 : decode cX1_init 1 = .ok (.invokespecial 3, 3) := by decide +kernel
theorem dX1_init_4 : decode cX1_init 4 = .ok (.aload_n 0, 1) := by decide +kernel
theorem dX1_init_5 : decode cX1_init 5 = .ok (.aload_n 1, 1) := by decide +kernel
theorem dX1_init_6 : decode cX1_init 6 = .ok (.putfield 9, 3) := by decide +kernel
theorem dX1_init_9 : decode cX1_init 9 = .ok (.aload_n 0, 1) := by decide +kernel
theorem dX1_init_10 : decode cX1_init 10 = .ok (.iload_n 2, 1) := by decide +kernel
theorem dX1_init_11 : decode cX1_init 11 = .ok (.putfield 15, 3) := by decide +kernel
theorem dX1_init_14 : decode cX1_init 14 = .ok (.aload_n 0, 1) := by decide +kernel
theorem dX1_init_15 : decode cX1_init 15 = .ok (.iload_n 3, 1) := by decide +kernel
theorem dX1_init_16 : decode cX1_init 16 = .ok (.putfield 19, 3) := by decide +kernel
theorem dX1_init_19 : decode cX1_init 19 = .ok (.aload_n 0, 1) := by decide +kernel
theorem dX1_init_20 : decode cX1_init 20 = .ok (.aload 4, 2) := by decide +kernel
theorem dX1_init_22 : decode cX1_init 22 = .ok (.putfield 22, 3) := by decide +kernel
theorem dX1_init_25 : decode cX1_init 25 = .ok (.return_, 1) := by decide +kernel
def rm_X1_init : Room := { frames := 1, cells := 0, slots := 0, locals := 26 }
set_option maxRecDepth 100000 in
set_option maxHeartbeats 4000000 in
theorem ok_X1_init_0 {E : Ev} {X : Xt} {l0 : Launch} {K : Hp → Prop} (hC : Cx E X l0 RX1 cX1_init 5 rm_X1_init) (hQ : CQ E X "<init>" none rm_X1_init (KV K)) (a0 : Nat) (a1 : Nat) (a2 : Int32) (a3 : Int32) (a4 : Nat) (h : Hp) (hV : V_X1_init a0 a1 a2 a3 a4 h K) : WW E X h 0 0 0 [some (rv a0), some (rv a1), some (.int a2), some (.int a3), some (rv a4)] [] := by
  unfold V_X1_init at hV
  refine r_aload_n hC dX1_init_0 rfl ?_
  obtain ⟨k9, hV⟩ := hV
  refine r_obj hC dX1_init_1 rfl ml_1_3 obj_i obj_c k9 cs0 ⟨Nat.le_of_ble_eq_true rfl, Nat.le_of_ble_eq_true rfl⟩ ?_
  refine r_aload_n hC dX1_init_4 rfl ?_
  refine r_aload_n hC dX1_init_5 rfl ?_
  obtain ⟨k9, hV⟩ := hV
  refine r_putFR hC hQ dX1_init_6 fl_1_9 ft_1 rfl rfl rf_1_0 ty_1_0 lq_1 k9 (nmH (fun h1 k9 => ?_))
  replace hV := hV h1 k9
  refine r_aload_n hC dX1_init_9 rfl ?_
  refine r_iload_n hC dX1_init_10 rfl ?_
  obtain ⟨k9, hV⟩ := hV
  refine r_putFI hC hQ dX1_init_11 fl_1_15 ft_1 rfl rfl rf_1_1 ty_1_1 lq_1 k9 (nmH (fun h2 k9 => ?_))
  replace hV := hV h2 k9
  refine r_aload_n hC dX1_init_14 rfl ?_
  refine r_iload_n hC dX1_init_15 rfl ?_
  obtain ⟨k9, hV⟩ := hV
  refine r_putFI hC hQ dX1_init_16 fl_1_19 ft_1 rfl rfl rf_1_2 ty_1_2 lq_1 k9 (nmH (fun h3 k9 => ?_))
  replace hV := hV h3 k9
  refine r_aload_n hC dX1_init_19 rfl ?_
  refine r_aload hC dX1_init_20 rfl ?_
  obtain ⟨k9, hV⟩ := hV
  refine r_putFR hC hQ dX1_init_22 fl_1_22 ft_1 rfl rfl rf_1_3 ty_1_3 lq_1 k9 (nmH (fun h4 k9 => ?_))
  replace hV := hV h4 k9
  exact r_vret hC hQ dX1_init_25 (Nat.le_of_ble_eq_true rfl) (Nat.le_of_ble_eq_true rfl) ⟨rfl, hV⟩
set_option maxRecDepth 100000 in
set_option maxHeartbeats 4000000 in
theorem con_X1_init {E : Ev} {l0 : Launch} (a0 : Nat) (a1 : Nat) (a2 : Int32) (a3 : Int32) (a4 : Nat) (h : Hp) (K : Hp → Prop) (hV : V_X1_init a0 a1 a2 a3 a4 h K) : Con E l0 yX1_init cX1_init 5 none rm_X1_init [rv a0, rv a1, .int a2, .int a3, rv a4] h (KV K) := by
  refine Con.of (by decide +kernel) (cat_R (cat_R (cat_I (cat_I (cat_R cat_nil))))) (Nat.le_of_ble_eq_true rfl) (fun X hC hQ => ?_)
  refine r_sub (lo1 := [some (rv a0), some (rv a1), some (.int a2), some (.int a3), some (rv a4)]) (show lsub [some (rv a0), some (rv a1), some (.int a2), some (.int a3), some (rv a4)] _ from ⟨Or.inr rfl, ⟨Or.inr rfl, ⟨Or.inr rfl, ⟨Or.inr rfl, ⟨Or.inr rfl, trivial⟩⟩⟩⟩⟩) ?_
  exact ok_X1_init_0 hC hQ a0 a1 a2 a3 a4 h hV
theorem dX1_isOpen_0 : decode cX1_isOpen 0 = .ok (.aload_n 0, 1) := by decide +kernel
theorem dX1_isOpen_1 : decode cX1_isOpen 1 = .ok (.getfield 15, 3) := by decide +kernel
theorem dX1_isOpen_4 : decode cX1_isOpen 4 = .ok (.ifCond .eq 11, 3) := by decide +kernel
theorem dX1_isOpen_7 : decode cX1_isOpen 7 = .ok (.aload_n 0, 1) := by decide +kernel
theorem dX1_isOpen_8 : decode cX1_isOpen 8 = .ok (.getfield 15, 3) := by decide +kernel
theorem dX1_isOpen_11 : decode cX1_isOpen 11 = .ok (.iconst 1, 1) := by decide +kernel
theorem dX1_isOpen_12 : decode cX1_isOpen 12 = .ok (.if_icmp .ne 7, 3) := by decide +kernel
theorem dX1_isOpen_15 : decode cX1_isOpen 15 = .ok (.iconst 1, 1) := by decide +kernel
theorem dX1_isOpen_16 : decode cX1_isOpen 16 = .ok (.goto 4, 3) := by decide +kernel
theorem dX1_isOpen_19 : decode cX1_isOpen 19 = .ok (.iconst 0, 1) := by decide +kernel
theorem dX1_isOpen_20 : decode cX1_isOpen 20 = .ok (.ireturn, 1) := by decide +kernel
def rm_X1_isOpen : Room := { frames := 0, cells := 0, slots := 0, locals := 0 }
set_option maxRecDepth 100000 in
set_option maxHeartbeats 4000000 in
theorem ok_X1_isOpen_20 {E : Ev} {X : Xt} {l0 : Launch} {K : Int32 → Hp → Prop} (hC : Cx E X l0 RX1 cX1_isOpen 1 rm_X1_isOpen) (hQ : CQ E X "isOpen" (some .boolean) rm_X1_isOpen (KI K)) (s0 : Int32) (h : Hp) (hV : V_X1_isOpen_20 K s0 h) : WW E X h 0 0 20 [none] [.int s0] := by
  unfold V_X1_isOpen_20 at hV
  exact r_zret hC hQ dX1_isOpen_20 (Nat.le_of_ble_eq_true rfl) (Nat.le_of_ble_eq_true rfl) hV.1 ⟨_, rfl, hV.2⟩
set_option maxRecDepth 100000 in
set_option maxHeartbeats 4000000 in
theorem ok_X1_isOpen_15 {E : Ev} {X : Xt} {l0 : Launch} {K : Int32 → Hp → Prop} (hC : Cx E X l0 RX1 cX1_isOpen 1 rm_X1_isOpen) (hQ : CQ E X "isOpen" (some .boolean) rm_X1_isOpen (KI K)) (h : Hp) (hV : V_X1_isOpen_15 K  h) : WW E X h 0 0 15 [none] [] := by
  unfold V_X1_isOpen_15 at hV
  refine r_iconst (v := 1) hC dX1_isOpen_15 (by decide) ?_
  refine r_goto (tgt := 20) hC dX1_isOpen_16 (by decide) ?_
  exact ok_X1_isOpen_20 hC hQ 1 h hV
set_option maxRecDepth 100000 in
set_option maxHeartbeats 4000000 in
theorem ok_X1_isOpen_0 {E : Ev} {X : Xt} {l0 : Launch} {K : Int32 → Hp → Prop} (hC : Cx E X l0 RX1 cX1_isOpen 1 rm_X1_isOpen) (hQ : CQ E X "isOpen" (some .boolean) rm_X1_isOpen (KI K)) (a0 : Nat) (h : Hp) (hV : V_X1_isOpen a0 h K) : WW E X h 0 0 0 [some (rv a0)] [] := by
  unfold V_X1_isOpen at hV
  refine r_aload_n hC dX1_isOpen_0 rfl ?_
  obtain ⟨k9, hV⟩ := hV
  refine r_getI hC dX1_isOpen_1 fl_1_15 rf_1_1 lq_1 k9 ?_
  refine r_if_eq (tgt := 15) hC dX1_isOpen_4 (by decide) (fun k9 => ?_) (fun k9 => ?_)
  · replace hV := hV.1 k9
    refine r_sub (lo1 := [none]) ⟨Or.inl rfl, trivial⟩ ?_
    exact ok_X1_isOpen_15 hC hQ  h hV
  · replace hV := hV.2 k9
    refine r_aload_n hC dX1_isOpen_7 rfl ?_
    obtain ⟨k9, hV⟩ := hV
    refine r_getI hC dX1_isOpen_8 fl_1_15 rf_1_1 lq_1 k9 ?_
    refine r_iconst (v := 1) hC dX1_isOpen_11 (by decide) ?_
    refine r_icmp_ne (tgt := 19) hC dX1_isOpen_12 (by decide) (fun k9 => ?_) (fun k9 => ?_)
    · replace hV := hV.1 k9
      refine r_iconst (v := 0) hC dX1_isOpen_19 (by decide) ?_
      refine r_sub (lo1 := [none]) ⟨Or.inl rfl, trivial⟩ ?_
      exact ok_X1_isOpen_20 hC hQ 0 h hV
    · replace hV := hV.2 k9
      refine r_sub (lo1 := [none]) ⟨Or.inl rfl, trivial⟩ ?_
      exact ok_X1_isOpen_15 hC hQ  h hV
set_option maxRecDepth 100000 in
set_option maxHeartbeats 4000000 in
theorem con_X1_isOpen {E : Ev} {l0 : Launch} (a0 : Nat) (h : Hp) (K : Int32 → Hp → Prop) (hV : V_X1_isOpen a0 h K) : Con E l0 yX1_isOpen cX1_isOpen 1 (some .boolean) rm_X1_isOpen [rv a0] h (KI K) := by
  refine Con.of (by decide +kernel) (cat_R cat_nil) (Nat.le_of_ble_eq_true rfl) (fun X hC hQ => ?_)
  refine r_sub (lo1 := [some (rv a0)]) (show lsub [some (rv a0)] _ from ⟨Or.inr rfl, trivial⟩) ?_
  exact ok_X1_isOpen_0 hC hQ a0 h hV
theorem dX2_addGaps_0 : decode cX2_addGaps 0 = .ok (.iload_n 2, 1) := by decide +kernel
theorem dX2_addGaps_1 : decode cX2_addGaps 1 = .ok (.iconst 1, 1) := by decide +kernel
theorem dX2_addGaps_2 : decode cX2_addGaps 2 = .ok (.if_icmp .ge 4, 3) := by decide +kernel
theorem dX2_addGaps_5 : decode cX2_addGaps 5 = .ok (.return_, 1) := by decide +kernel
theorem dX2_addGaps_6 : decode cX2_addGaps 6 = .ok (.iconst 0, 1) := by decide +kernel
theorem dX2_addGaps_7 : decode cX2_addGaps 7 = .ok (.istore_n 3, 1) := by decide +kernel
theorem dX2_addGaps_8 : decode cX2_addGaps 8 = .ok (.iload_n 3, 1) := by decide +kernel
theorem dX2_addGaps_9 : decode cX2_addGaps 9 = .ok (.iload_n 2, 1) := by decide +kernel
theorem dX2_addGaps_10 : decode cX2_addGaps 10 = .ok (.if_icmp .ge 56, 3) := by decide +kernel
theorem dX2_addGaps_13 : decode cX2_addGaps 13 = .ok (.aload_n 0, 1) := by decide +kernel
theorem dX2_addGaps_14 : decode cX2_addGaps 14 = .ok (.getfield 35, 3) := by decide +kernel
theorem dX2_addGaps_17 : decode cX2_addGaps 17 = .ok (.aload_n 0, 1) := by decide +kernel
theorem dX2_addGaps_18 : decode cX2_addGaps 18 = .ok (.getfield 25, 3) := by decide +kernel
theorem dX2_addGaps_21 : decode cX2_addGaps 21 = .ok (.arraylength, 1) := by decide +kernel
theorem dX2_addGaps_22 : decode cX2_addGaps 22 = .ok (.if_icmp .ge 44, 3) := by decide +kernel
theorem dX2_addGaps_25 : decode cX2_addGaps 25 = .ok (.aload_n 0, 1) := by decide +kernel
theorem dX2_addGaps_26 : decode cX2_addGaps 26 = .ok (.getfield 25, 3) := by decide +kernel
theorem dX2_addGaps_29 : decode cX2_addGaps 29 = .ok (.aload_n 0, 1) := by decide +kernel
theorem dX2_addGaps_30 : decode cX2_addGaps 30 = .ok (.getfield 35, 3) := by decide +kernel
theorem dX2_addGaps_33 : decode cX2_addGaps 33 = .ok (.iload_n 1, 1) := by decide +kernel
theorem dX2_addGaps_34 : decode cX2_addGaps 34 = .ok (.iload_n 2, 1) := by decide +kernel
theorem dX2_addGaps_35 : decode cX2_addGaps 35 = .ok (.idiv, 1) := by decide +kernel
theorem dX2_addGaps_36 : decode cX2_addGaps 36 = .ok (.iload_n 3, 1) := by decide +kernel
theorem dX2_addGaps_37 : decode cX2_addGaps 37 = .ok (.iload_n 1, 1) := by decide +kernel
theorem dX2_addGaps_38 : decode cX2_addGaps 38 = .ok (.iload_n 2, 1) := by decide +kernel
theorem dX2_addGaps_39 : decode cX2_addGaps 39 = .ok (.irem, 1) := by decide +kernel
theorem dX2_addGaps_40 : decode cX2_addGaps 40 = .ok (.if_icmp .ge 7, 3) := by decide +kernel
theorem dX2_addGaps_43 : decode cX2_addGaps 43 = .ok (.iconst 1, 1) := by decide +kernel
theorem dX2_addGaps_44 : decode cX2_addGaps 44 = .ok (.goto 4, 3) := by decide +kernel
theorem dX2_addGaps_47 : decode cX2_addGaps 47 = .ok (.iconst 0, 1) := by decide +kernel
theorem dX2_addGaps_48 : decode cX2_addGaps 48 = .ok (.iadd, 1) := by decide +kernel
theorem dX2_addGaps_49 : decode cX2_addGaps 49 = .ok (.iastore, 1) := by decide +kernel
theorem dX2_addGaps_50 : decode cX2_addGaps 50 = .ok (.aload_n 0, 1) := by decide +kernel
theorem dX2_addGaps_51 : decode cX2_addGaps 51 = .ok (.dup, 1) := by decide +kernel
theorem dX2_addGaps_52 : decode cX2_addGaps 52 = .ok (.getfield 35, 3) := by decide +kernel
theorem dX2_addGaps_55 : decode cX2_addGaps 55 = .ok (.iconst 1, 1) := by decide +kernel
theorem dX2_addGaps_56 : decode cX2_addGaps 56 = .ok (.iadd, 1) := by decide +kernel
theorem dX2_addGaps_57 : decode cX2_addGaps 57 = .ok (.putfield 35, 3) := by decide +kernel
theorem dX2_addGaps_60 : decode cX2_addGaps 60 = .ok (.iinc 3 1, 3) := by decide +kernel
theorem dX2_addGaps_63 : decode cX2_addGaps 63 = .ok (.goto (-55), 3) := by decide +kernel
theorem dX2_addGaps_66 : decode cX2_addGaps 66 = .ok (.return_, 1) := by decide +kernel
def rm_X2_addGaps : Room := { frames := 0, cells := 0, slots := 0, locals := 0 }
set_option maxRecDepth 100000 in
set_option maxHeartbeats 4000000 in
theorem ok_X2_addGaps_48 {E : Ev} {X : Xt} {l0 : Launch} {K : Hp → Prop} {C8 : Nat → Int32 → Int32 → Int32 → Hp → Prop} (hC : Cx E X l0 RX2 cX2_addGaps 4 rm_X2_addGaps) (hQ : CQ E X "addGaps" none rm_X2_addGaps (KV K)) (hC8 : ∀ (a0 : Nat) (a1 : Int32) (a2 : Int32) (a3 : Int32) (h : Hp), C8 a0 a1 a2 a3 h → WW E X h 0 0 8 [some (rv a0), some (.int a1), some (.int a2), some (.int a3)] []) (a0 : Nat) (a1 : Int32) (a2 : Int32) (a3 : Int32) (s0 : Nat) (s1 : Int32) (s2 : Int32) (s3 : Int32) (h : Hp) (hV : V_X2_addGaps_48 K C8 a0 a1 a2 a3 s0 s1 s2 s3 h) : WW E X h 0 0 48 [some (rv a0), some (.int a1), some (.int a2), some (.int a3)] [.int s3, .int s2, .int s1, rv s0] := by
  unfold V_X2_addGaps_48 at hV
  refine r_iadd hC dX2_addGaps_48 ?_
  obtain ⟨k9, k8, hV⟩ := hV
  refine r_iast (kd := 34) hC dX2_addGaps_49 (by decide) rfl k9 k8 (nmH (fun h1 k9 => ?_))
  replace hV := hV h1 k9
  refine r_aload_n hC dX2_addGaps_50 rfl ?_
  refine r_dup hC dX2_addGaps_51 (rv_cat _) ?_
  obtain ⟨k9, hV⟩ := hV
  refine r_getI hC dX2_addGaps_52 fl_2_35 rf_2_7 lq_2 k9 ?_
  refine r_iconst (v := 1) hC dX2_addGaps_55 (by decide) ?_
  refine r_iadd hC dX2_addGaps_56 ?_
  obtain ⟨k9, hV⟩ := hV
  refine r_putI hC dX2_addGaps_57 fl_2_35 ft_2 rfl rf_2_7 ty_2_7 lq_2 k9 (nmH (fun h2 k9 => ?_))
  replace hV := hV h2 k9
  refine r_iinc (v := 1) (lo1 := [some (rv a0), some (.int a1), some (.int a2), some (.int (a3 + 1))]) hC dX2_addGaps_60 rfl (by decide) (pvI rfl) rfl ?_
  refine r_goto (tgt := 8) hC dX2_addGaps_63 (by decide) ?_
  exact hC8 a0 a1 a2 (a3 + 1) h2 hV
set_option maxRecDepth 100000 in
set_option maxHeartbeats 4000000 in
theorem ok_X2_addGaps_66 {E : Ev} {X : Xt} {l0 : Launch} {K : Hp → Prop} (hC : Cx E X l0 RX2 cX2_addGaps 4 rm_X2_addGaps) (hQ : CQ E X "addGaps" none rm_X2_addGaps (KV K)) (h : Hp) (hV : V_X2_addGaps_66 K  h) : WW E X h 0 0 66 [none, none, none, none] [] := by
  unfold V_X2_addGaps_66 at hV
  exact r_vret hC hQ dX2_addGaps_66 (Nat.le_of_ble_eq_true rfl) (Nat.le_of_ble_eq_true rfl) ⟨rfl, hV⟩
set_option maxRecDepth 100000 in
set_option maxHeartbeats 4000000 in
theorem ok_X2_addGaps_8 {E : Ev} {X : Xt} {l0 : Launch} {K : Hp → Prop} (hC : Cx E X l0 RX2 cX2_addGaps 4 rm_X2_addGaps) (hQ : CQ E X "addGaps" none rm_X2_addGaps (KV K)) : ∀ (n : Nat) (a0 : Nat) (a1 : Int32) (a2 : Int32) (a3 : Int32) (h : Hp), V_X2_addGaps_8 K n a0 a1 a2 a3 h → WW E X h 0 0 8 [some (rv a0), some (.int a1), some (.int a2), some (.int a3)] [] := by
  intro n
  induction n with
  | zero => intro a0 a1 a2 a3 h hV; exact hV.elim
  | succ n ih =>
    intro a0 a1 a2 a3 h hV
    unfold V_X2_addGaps_8 at hV
    refine r_iload_n hC dX2_addGaps_8 rfl ?_
    refine r_iload_n hC dX2_addGaps_9 rfl ?_
    refine r_icmp_ge (tgt := 66) hC dX2_addGaps_10 (by decide) (fun k9 => ?_) (fun k9 => ?_)
    · replace hV := hV.1 k9
      refine r_sub (lo1 := [none, none, none, none]) ⟨Or.inl rfl, ⟨Or.inl rfl, ⟨Or.inl rfl, ⟨Or.inl rfl, trivial⟩⟩⟩⟩ ?_
      exact ok_X2_addGaps_66 hC hQ  h hV
    · replace hV := hV.2 k9
      refine r_aload_n hC dX2_addGaps_13 rfl ?_
      obtain ⟨k9, hV⟩ := hV
      refine r_getI hC dX2_addGaps_14 fl_2_35 rf_2_7 lq_2 k9 ?_
      refine r_aload_n hC dX2_addGaps_17 rfl ?_
      obtain ⟨k9, hV⟩ := hV
      refine r_getR hC dX2_addGaps_18 fl_2_25 rf_2_4 lq_2 k9 ?_
      obtain ⟨k9, hV⟩ := hV
      refine r_alen (kd := 34) hC dX2_addGaps_21 (by decide) k9 ?_
      refine r_icmp_ge (tgt := 66) hC dX2_addGaps_22 (by decide) (fun k9 => ?_) (fun k9 => ?_)
      · replace hV := hV.1 k9
        refine r_sub (lo1 := [none, none, none, none]) ⟨Or.inl rfl, ⟨Or.inl rfl, ⟨Or.inl rfl, ⟨Or.inl rfl, trivial⟩⟩⟩⟩ ?_
        exact ok_X2_addGaps_66 hC hQ  h hV
      · replace hV := hV.2 k9
        refine r_aload_n hC dX2_addGaps_25 rfl ?_
        obtain ⟨k9, hV⟩ := hV
        refine r_getR hC dX2_addGaps_26 fl_2_25 rf_2_4 lq_2 k9 ?_
        refine r_aload_n hC dX2_addGaps_29 rfl ?_
        obtain ⟨k9, hV⟩ := hV
        refine r_getI hC dX2_addGaps_30 fl_2_35 rf_2_7 lq_2 k9 ?_
        refine r_iload_n hC dX2_addGaps_33 rfl ?_
        refine r_iload_n hC dX2_addGaps_34 rfl ?_
        obtain ⟨k9, hV⟩ := hV
        refine r_idiv hC dX2_addGaps_35 k9 ?_
        refine r_iload_n hC dX2_addGaps_36 rfl ?_
        refine r_iload_n hC dX2_addGaps_37 rfl ?_
        refine r_iload_n hC dX2_addGaps_38 rfl ?_
        obtain ⟨k9, hV⟩ := hV
        refine r_irem hC dX2_addGaps_39 k9 ?_
        refine r_icmp_ge (tgt := 47) hC dX2_addGaps_40 (by decide) (fun k9 => ?_) (fun k9 => ?_)
        · replace hV := hV.1 k9
          refine r_iconst (v := 0) hC dX2_addGaps_47 (by decide) ?_
          exact ok_X2_addGaps_48 hC hQ ih a0 a1 a2 a3 (hR h a0 4) (hI h a0 7) (a1 / a2) 0 h hV
        · replace hV := hV.2 k9
          refine r_iconst (v := 1) hC dX2_addGaps_43 (by decide) ?_
          refine r_goto (tgt := 48) hC dX2_addGaps_44 (by decide) ?_
          exact ok_X2_addGaps_48 hC hQ ih a0 a1 a2 a3 (hR h a0 4) (hI h a0 7) (a1 / a2) 1 h hV
set_option maxRecDepth 100000 in
set_option maxHeartbeats 4000000 in
theorem ok_X2_addGaps_0 {E : Ev} {X : Xt} {l0 : Launch} {K : Hp → Prop} (hC : Cx E X l0 RX2 cX2_addGaps 4 rm_X2_addGaps) (hQ : CQ E X "addGaps" none rm_X2_addGaps (KV K)) (a0 : Nat) (a1 : Int32) (a2 : Int32) (h : Hp) (hV : V_X2_addGaps a0 a1 a2 h K) : WW E X h 0 0 0 [some (rv a0), some (.int a1), some (.int a2), none] [] := by
  unfold V_X2_addGaps at hV
  refine r_iload_n hC dX2_addGaps_0 rfl ?_
  refine r_iconst (v := 1) hC dX2_addGaps_1 (by decide) ?_
  refine r_icmp_ge (tgt := 6) hC dX2_addGaps_2 (by decide) (fun k9 => ?_) (fun k9 => ?_)
  · replace hV := hV.1 k9
    refine r_iconst (v := 0) hC dX2_addGaps_6 (by decide) ?_
    refine r_istore_n (ii := 3) (lo1 := [some (rv a0), some (.int a1), some (.int a2), some (.int 0)]) hC dX2_addGaps_7 rfl (Nat.le_of_ble_eq_true rfl) (pvI rfl) rfl ?_
    obtain ⟨n9, hV⟩ := hV
    exact ok_X2_addGaps_8 hC hQ n9 a0 a1 a2 0 h hV
  · replace hV := hV.2 k9
    exact r_vret hC hQ dX2_addGaps_5 (Nat.le_of_ble_eq_true rfl) (Nat.le_of_ble_eq_true rfl) ⟨rfl, hV⟩
set_option maxRecDepth 100000 in
set_option maxHeartbeats 4000000 in
theorem con_X2_addGaps {E : Ev} {l0 : Launch} (a0 : Nat) (a1 : Int32) (a2 : Int32) (h : Hp) (K : Hp → Prop) (hV : V_X2_addGaps a0 a1 a2 h K) : Con E l0 yX2_addGaps cX2_addGaps 4 none rm_X2_addGaps [rv a0, .int a1, .int a2] h (KV K) := by
  refine Con.of (by decide +kernel) (cat_R (cat_I (cat_I cat_nil))) (Nat.le_of_ble_eq_true rfl) (fun X hC hQ => ?_)
  refine r_sub (lo1 := [some (rv a0), some (.int a1), some (.int a2), none]) (show lsub [some (rv a0), some (.int a1), some (.int a2), none] _ from ⟨Or.inr rfl, ⟨Or.inr rfl, ⟨Or.inr rfl, ⟨Or.inr rfl, trivial⟩⟩⟩⟩) ?_
  exact ok_X2_addGaps_0 hC hQ a0 a1 a2 h hV
theorem dX2_addLine_0 : decode cX2_addLine 0 = .ok (.iload_n 3, 1) := by decide +kernel
theorem dX2_addLine_1 : decode cX2_addLine 1 = .ok (.istore 4, 2) := by decide +kernel
theorem dX2_addLine_3 : decode cX2_addLine 3 = .ok (.iconst 0, 1) := by decide +kernel
theorem dX2_addLine_4 : decode cX2_addLine 4 = .ok (.istore 5, 2) := by decide +kernel
theorem dX2_addLine_6 : decode cX2_addLine 6 = .ok (.iload_n 1, 1) := by decide +kernel
theorem dX2_addLine_7 : decode cX2_addLine 7 = .ok (.istore 6, 2) := by decide +kernel
theorem dX2_addLine_9 : decode cX2_addLine 9 = .ok (.iload 6, 2) := by decide +kernel
theorem dX2_addLine_11 : decode cX2_addLine 11 = .ok (.iload_n 2, 1) := by decide +kernel
theorem dX2_addLine_12 : decode cX2_addLine 12 = .ok (.if_icmp .ge 85, 3) := by decide +kernel
theorem dX2_addLine_15 : decode cX2_addLine 15 = .ok (.iload 6, 2) := by decide +kernel
theorem dX2_addLine_17 : decode cX2_addLine 17 = .ok (.aload_n 0, 1) := by decide +kernel
theorem dX2_addLine_18 : decode cX2_addLine 18 = .ok (.getfield 9, 3) := by decide +kernel
theorem dX2_addLine_21 : decode cX2_addLine 21 = .ok (.arraylength, 1) := by decide +kernel
theorem dX2_addLine_22 : decode cX2_addLine 22 = .ok (.if_icmp .ge 75, 3) := by decide +kernel
theorem dX2_addLine_25 : decode cX2_addLine 25 = .ok (.aload_n 0, 1) := by decide +kernel
theorem dX2_addLine_26 : decode cX2_addLine 26 = .ok (.getfield 9, 3) := by decide +kernel
theorem dX2_addLine_29 : decode cX2_addLine 29 = .ok (.iload 6, 2) := by decide +kernel
theorem dX2_addLine_31 : decode cX2_addLine 31 = .ok (.caload, 1) := by decide +kernel
theorem dX2_addLine_32 : decode cX2_addLine 32 = .ok (.invokestatic 60, 3) := by decide +kernel
theorem dX2_addLine_35 : decode cX2_addLine 35 = .ok (.ifCond .eq 53, 3) := by decide +kernel
theorem dX2_addLine_38 : decode cX2_addLine 38 = .ok (.iload 4, 2) := by decide +kernel
theorem dX2_addLine_40 : decode cX2_addLine 40 = .ok (.aload_n 0, 1) := by decide +kernel
theorem dX2_addLine_41 : decode cX2_addLine 41 = .ok (.getfield 9, 3) := by decide +kernel
theorem dX2_addLine_44 : decode cX2_addLine 44 = .ok (.iload 6, 2) := by decide +kernel
theorem dX2_addLine_46 : decode cX2_addLine 46 = .ok (.caload, 1) := by decide +kernel
theorem dX2_addLine_47 : decode cX2_addLine 47 = .ok (.bipush 97, 2) := by decide +kernel
theorem dX2_addLine_49 : decode cX2_addLine 49 = .ok (.isub, 1) := by decide +kernel
theorem dX2_addLine_50 : decode cX2_addLine 50 = .ok (.invokestatic 64, 3) := by decide +kernel
theorem dX2_addLine_53 : decode cX2_addLine 53 = .ok (.isub, 1) := by decide +kernel
theorem dX2_addLine_54 : decode cX2_addLine 54 = .ok (.istore 4, 2) := by decide +kernel
theorem dX2_addLine_56 : decode cX2_addLine 56 = .ok (.aload_n 0, 1) := by decide +kernel
theorem dX2_addLine_57 : decode cX2_addLine 57 = .ok (.getfield 15, 3) := by decide +kernel
theorem dX2_addLine_60 : decode cX2_addLine 60 = .ok (.aload_n 0, 1) := by decide +kernel
theorem dX2_addLine_61 : decode cX2_addLine 61 = .ok (.getfield 9, 3) := by decide +kernel
theorem dX2_addLine_64 : decode cX2_addLine 64 = .ok (.iload 6, 2) := by decide +kernel
theorem dX2_addLine_66 : decode cX2_addLine 66 = .ok (.caload, 1) := by decide +kernel
theorem dX2_addLine_67 : decode cX2_addLine 67 = .ok (.bipush 97, 2) := by decide +kernel
theorem dX2_addLine_69 : decode cX2_addLine 69 = .ok (.isub, 1) := by decide +kernel
theorem dX2_addLine_70 : decode cX2_addLine 70 = .ok (.dup2, 1) := by decide +kernel
theorem dX2_addLine_71 : decode cX2_addLine 71 = .ok (.iaload, 1) := by decide +kernel
theorem dX2_addLine_72 : decode cX2_addLine 72 = .ok (.iconst 1, 1) := by decide +kernel
theorem dX2_addLine_73 : decode cX2_addLine 73 = .ok (.iadd, 1) := by decide +kernel
theorem dX2_addLine_74 : decode cX2_addLine 74 = .ok (.iastore, 1) := by decide +kernel
theorem dX2_addLine_75 : decode cX2_addLine 75 = .ok (.aload_n 0, 1) := by decide +kernel
theorem dX2_addLine_76 : decode cX2_addLine 76 = .ok (.dup, 1) := by decide +kernel
theorem dX2_addLine_77 : decode cX2_addLine 77 = .ok (.getfield 32, 3) := by decide +kernel
theorem dX2_addLine_80 : decode cX2_addLine 80 = .ok (.iconst 1, 1) := by decide +kernel
theorem dX2_addLine_81 : decode cX2_addLine 81 = .ok (.iadd, 1) := by decide +kernel
theorem dX2_addLine_82 : decode cX2_addLine 82 = .ok (.putfield 32, 3) := by decide +kernel
theorem dX2_addLine_85 : decode cX2_addLine 85 = .ok (.goto 6, 3) := by decide +kernel
theorem dX2_addLine_88 : decode cX2_addLine 88 = .ok (.iinc 5 1, 3) := by decide +kernel
theorem dX2_addLine_91 : decode cX2_addLine 91 = .ok (.iinc 6 1, 3) := by decide +kernel
theorem dX2_addLine_94 : decode cX2_addLine 94 = .ok (.goto (-85), 3) := by decide +kernel
theorem dX2_addLine_97 : decode cX2_addLine 97 = .ok (.iload 4, 2) := by decide +kernel
theorem dX2_addLine_99 : decode cX2_addLine 99 = .ok (.iload 5, 2) := by decide +kernel
theorem dX2_addLine_101 : decode cX2_addLine 101 = .ok (.if_icmp .ge 8, 3) := by decide +kernel
theorem dX2_addLine_104 : decode cX2_addLine 104 = .ok (.aload_n 0, 1) := by decide +kernel
theorem dX2_addLine_105 : decode cX2_addLine 105 = .ok (.iconst 1, 1) := by decide +kernel
theorem dX2_addLine_106 : decode cX2_addLine 106 = .ok (.putfield 38, 3) := by decide +kernel
theorem dX2_addLine_109 : decode cX2_addLine 109 = .ok (.aload_n 0, 1) := by decide +kernel
theorem dX2_addLine_110 : decode cX2_addLine 110 = .ok (.iload 4, 2) := by decide +kernel
theorem dX2_addLine_112 : decode cX2_addLine 112 = .ok (.iconst 0, 1) := by decide +kernel
theorem dX2_addLine_113 : decode cX2_addLine 113 = .ok (.invokestatic 68, 3) := by decide +kernel
theorem dX2_addLine_116 : decode cX2_addLine 116 = .ok (.iload 5, 2) := by decide +kernel
theorem dX2_addLine_118 : decode cX2_addLine 118 = .ok (.iconst 1, 1) := by decide +kernel
theorem dX2_addLine_119 : decode cX2_addLine 119 = .ok (.invokestatic 68, 3) := by decide +kernel
theorem dX2_addLine_122 : decode cX2_addLine 122 = .ok (.invokevirtual 71, 3) := by decide +kernel
theorem dX2_addLine_125 : decode cX2_addLine 125 = .ok (.aload_n 0, 1) := by decide +kernel
theorem dX2_addLine_126 : decode cX2_addLine 126 = .ok (.getfield 28, 3) := by decide +kernel
theorem dX2_addLine_129 : decode cX2_addLine 129 = .ok (.bipush 30, 2) := by decide +kernel
theorem dX2_addLine_131 : decode cX2_addLine 131 = .ok (.if_icmp .ge 36, 3) := by decide +kernel
theorem dX2_addLine_134 : decode cX2_addLine 134 = .ok (.aload_n 0, 1) := by decide +kernel
theorem dX2_addLine_135 : decode cX2_addLine 135 = .ok (.getfield 19, 3) := by decide +kernel
theorem dX2_addLine_138 : decode cX2_addLine 138 = .ok (.aload_n 0, 1) := by decide +kernel
theorem dX2_addLine_139 : decode cX2_addLine 139 = .ok (.getfield 28, 3) := by decide +kernel
theorem dX2_addLine_142 : decode cX2_addLine 142 = .ok (.iload_n 2, 1) := by decide +kernel
theorem dX2_addLine_143 : decode cX2_addLine 143 = .ok (.iastore, 1) := by decide +kernel
theorem dX2_addLine_144 : decode cX2_addLine 144 = .ok (.aload_n 0, 1) := by decide +kernel
theorem dX2_addLine_145 : decode cX2_addLine 145 = .ok (.getfield 22, 3) := by decide +kernel
theorem dX2_addLine_148 : decode cX2_addLine 148 = .ok (.aload_n 0, 1) := by decide +kernel
theorem dX2_addLine_149 : decode cX2_addLine 149 = .ok (.getfield 28, 3) := by decide +kernel
theorem dX2_addLine_152 : decode cX2_addLine 152 = .ok (.aload_n 0, 1) := by decide +kernel
theorem dX2_addLine_153 : decode cX2_addLine 153 = .ok (.getfield 35, 3) := by decide +kernel
theorem dX2_addLine_156 : decode cX2_addLine 156 = .ok (.iastore, 1) := by decide +kernel
theorem dX2_addLine_157 : decode cX2_addLine 157 = .ok (.aload_n 0, 1) := by decide +kernel
theorem dX2_addLine_158 : decode cX2_addLine 158 = .ok (.dup, 1) := by decide +kernel
theorem dX2_addLine_159 : decode cX2_addLine 159 = .ok (.getfield 28, 3) := by decide +kernel
theorem dX2_addLine_162 : decode cX2_addLine 162 = .ok (.iconst 1, 1) := by decide +kernel
theorem dX2_addLine_163 : decode cX2_addLine 163 = .ok (.iadd, 1) := by decide +kernel
theorem dX2_addLine_164 : decode cX2_addLine 164 = .ok (.putfield 28, 3) := by decide +kernel
theorem dX2_addLine_167 : decode cX2_addLine 167 = .ok (.return_, 1) := by decide +kernel
def rm_X2_addLine : Room := { frames := 1, cells := 0, slots := 0, locals := 26 }
set_option maxRecDepth 100000 in
set_option maxHeartbeats 4000000 in
theorem ok_X2_addLine_91 {E : Ev} {X : Xt} {l0 : Launch} {K : Hp → Prop} {C9 : Nat → Int32 → Int32 → Int32 → Int32 → Hp → Prop} (hC : Cx E X l0 RX2 cX2_addLine 7 rm_X2_addLine) (hQ : CQ E X "addLine" none rm_X2_addLine (KV K)) (hC9 : ∀ (a0 : Nat) (a2 : Int32) (a4 : Int32) (a5 : Int32) (a6 : Int32) (h : Hp), C9 a0 a2 a4 a5 a6 h → WW E X h 0 0 9 [some (rv a0), none, some (.int a2), none, some (.int a4), some (.int a5), some (.int a6)] []) (a0 : Nat) (a2 : Int32) (a4 : Int32) (a5 : Int32) (a6 : Int32) (h : Hp) (hV : V_X2_addLine_91 K C9 a0 a2 a4 a5 a6 h) : WW E X h 0 0 91 [some (rv a0), none, some (.int a2), none, some (.int a4), some (.int a5), some (.int a6)] [] := by
  unfold V_X2_addLine_91 at hV
  refine r_iinc (v := 1) (lo1 := [some (rv a0), none, some (.int a2), none, some (.int a4), some (.int a5), some (.int (a6 + 1))]) hC dX2_addLine_91 rfl (by decide) (pvI rfl) rfl ?_
  refine r_goto (tgt := 9) hC dX2_addLine_94 (by decide) ?_
  exact hC9 a0 a2 a4 a5 (a6 + 1) h hV
set_option maxRecDepth 100000 in
set_option maxHeartbeats 4000000 in
theorem ok_X2_addLine_167 {E : Ev} {X : Xt} {l0 : Launch} {K : Hp → Prop} (hC : Cx E X l0 RX2 cX2_addLine 7 rm_X2_addLine) (hQ : CQ E X "addLine" none rm_X2_addLine (KV K)) (h : Hp) (hV : V_X2_addLine_167 K  h) : WW E X h 0 0 167 [none, none, none, none, none, none, none] [] := by
  unfold V_X2_addLine_167 at hV
  exact r_vret hC hQ dX2_addLine_167 (Nat.le_of_ble_eq_true rfl) (Nat.le_of_ble_eq_true rfl) ⟨rfl, hV⟩
set_option maxRecDepth 100000 in
set_option maxHeartbeats 4000000 in
theorem ok_X2_addLine_109 {E : Ev} {X : Xt} {l0 : Launch} {K : Hp → Prop} (hC : Cx E X l0 RX2 cX2_addLine 7 rm_X2_addLine) (hQ : CQ E X "addLine" none rm_X2_addLine (KV K)) (a0 : Nat) (a2 : Int32) (a4 : Int32) (a5 : Int32) (h : Hp) (hV : V_X2_addLine_109 K a0 a2 a4 a5 h) : WW E X h 0 0 109 [some (rv a0), none, some (.int a2), none, some (.int a4), some (.int a5), none] [] := by
  unfold V_X2_addLine_109 at hV
  refine r_aload_n hC dX2_addLine_109 rfl ?_
  refine r_iload hC dX2_addLine_110 rfl ?_
  refine r_iconst (v := 0) hC dX2_addLine_112 (by decide) ?_
  refine r_max hC dX2_addLine_113 rfl ml_2_68 mmax_s mth_i mmax_c (csR cs0) ⟨Nat.le_of_ble_eq_true rfl, Nat.le_of_ble_eq_true rfl, Nat.le_of_ble_eq_true rfl, Nat.le_of_ble_eq_true rfl⟩ ?_
  refine r_iload hC dX2_addLine_116 rfl ?_
  refine r_iconst (v := 1) hC dX2_addLine_118 (by decide) ?_
  refine r_max hC dX2_addLine_119 rfl ml_2_68 mmax_s mth_i mmax_c (csI (csR cs0)) ⟨Nat.le_of_ble_eq_true rfl, Nat.le_of_ble_eq_true rfl, Nat.le_of_ble_eq_true rfl, Nat.le_of_ble_eq_true rfl⟩ ?_
  obtain ⟨k9, hV⟩ := hV
  refine r_callV (ci := 2) (As := [.int (if a4 < 0 then 0 else a4), .int (if a5 < 1 then 1 else a5)]) hC dX2_addLine_122 rfl cf_X2_addGaps ml_2_71 im_X2_addGaps sl_X2_addGaps lq_2 rfl rfl k9 rfl ⟨(Nat.le_of_ble_eq_true rfl), (Nat.le_of_ble_eq_true rfl), (Nat.le_of_ble_eq_true rfl), (Nat.le_of_ble_eq_true rfl)⟩ cs0 (Nat.le_of_ble_eq_true rfl) (con_X2_addGaps a0 (if a4 < 0 then 0 else a4) (if a5 < 1 then 1 else a5) h _ hV) rfl (kV (k := 0) (n := 0) (fun h1 hV => ?_))
  refine r_aload_n hC dX2_addLine_125 rfl ?_
  obtain ⟨k9, hV⟩ := hV
  refine r_getI hC dX2_addLine_126 fl_2_28 rf_2_5 lq_2 k9 ?_
  refine r_bipush (v := 30) hC dX2_addLine_129 (by decide) ?_
  refine r_icmp_ge (tgt := 167) hC dX2_addLine_131 (by decide) (fun k9 => ?_) (fun k9 => ?_)
  · replace hV := hV.1 k9
    refine r_sub (lo1 := [none, none, none, none, none, none, none]) ⟨Or.inl rfl, ⟨Or.inl rfl, ⟨Or.inl rfl, ⟨Or.inl rfl, ⟨Or.inl rfl, ⟨Or.inl rfl, ⟨Or.inl rfl, trivial⟩⟩⟩⟩⟩⟩⟩ ?_
    exact ok_X2_addLine_167 hC hQ  h1 hV
  · replace hV := hV.2 k9
    refine r_aload_n hC dX2_addLine_134 rfl ?_
    obtain ⟨k9, hV⟩ := hV
    refine r_getR hC dX2_addLine_135 fl_2_19 rf_2_2 lq_2 k9 ?_
    refine r_aload_n hC dX2_addLine_138 rfl ?_
    obtain ⟨k9, hV⟩ := hV
    refine r_getI hC dX2_addLine_139 fl_2_28 rf_2_5 lq_2 k9 ?_
    refine r_iload_n hC dX2_addLine_142 rfl ?_
    obtain ⟨k9, k8, hV⟩ := hV
    refine r_iast (kd := 32) hC dX2_addLine_143 (by decide) rfl k9 k8 (nmH (fun h2 k9 => ?_))
    replace hV := hV h2 k9
    refine r_aload_n hC dX2_addLine_144 rfl ?_
    obtain ⟨k9, hV⟩ := hV
    refine r_getR hC dX2_addLine_145 fl_2_22 rf_2_3 lq_2 k9 ?_
    refine r_aload_n hC dX2_addLine_148 rfl ?_
    obtain ⟨k9, hV⟩ := hV
    refine r_getI hC dX2_addLine_149 fl_2_28 rf_2_5 lq_2 k9 ?_
    refine r_aload_n hC dX2_addLine_152 rfl ?_
    obtain ⟨k9, hV⟩ := hV
    refine r_getI hC dX2_addLine_153 fl_2_35 rf_2_7 lq_2 k9 ?_
    obtain ⟨k9, k8, hV⟩ := hV
    refine r_iast (kd := 33) hC dX2_addLine_156 (by decide) rfl k9 k8 (nmH (fun h3 k9 => ?_))
    replace hV := hV h3 k9
    refine r_aload_n hC dX2_addLine_157 rfl ?_
    refine r_dup hC dX2_addLine_158 (rv_cat _) ?_
    obtain ⟨k9, hV⟩ := hV
    refine r_getI hC dX2_addLine_159 fl_2_28 rf_2_5 lq_2 k9 ?_
    refine r_iconst (v := 1) hC dX2_addLine_162 (by decide) ?_
    refine r_iadd hC dX2_addLine_163 ?_
    obtain ⟨k9, hV⟩ := hV
    refine r_putI hC dX2_addLine_164 fl_2_28 ft_2 rfl rf_2_5 ty_2_5 lq_2 k9 (nmH (fun h4 k9 => ?_))
    replace hV := hV h4 k9
    refine r_sub (lo1 := [none, none, none, none, none, none, none]) ⟨Or.inl rfl, ⟨Or.inl rfl, ⟨Or.inl rfl, ⟨Or.inl rfl, ⟨Or.inl rfl, ⟨Or.inl rfl, ⟨Or.inl rfl, trivial⟩⟩⟩⟩⟩⟩⟩ ?_
    exact ok_X2_addLine_167 hC hQ  h4 hV
set_option maxRecDepth 100000 in
set_option maxHeartbeats 4000000 in
theorem ok_X2_addLine_97 {E : Ev} {X : Xt} {l0 : Launch} {K : Hp → Prop} (hC : Cx E X l0 RX2 cX2_addLine 7 rm_X2_addLine) (hQ : CQ E X "addLine" none rm_X2_addLine (KV K)) (a0 : Nat) (a2 : Int32) (a4 : Int32) (a5 : Int32) (h : Hp) (hV : V_X2_addLine_97 K a0 a2 a4 a5 h) : WW E X h 0 0 97 [some (rv a0), none, some (.int a2), none, some (.int a4), some (.int a5), none] [] := by
  unfold V_X2_addLine_97 at hV
  refine r_iload hC dX2_addLine_97 rfl ?_
  refine r_iload hC dX2_addLine_99 rfl ?_
  refine r_icmp_ge (tgt := 109) hC dX2_addLine_101 (by decide) (fun k9 => ?_) (fun k9 => ?_)
  · replace hV := hV.1 k9
    exact ok_X2_addLine_109 hC hQ a0 a2 a4 a5 h hV
  · replace hV := hV.2 k9
    refine r_aload_n hC dX2_addLine_104 rfl ?_
    refine r_iconst (v := 1) hC dX2_addLine_105 (by decide) ?_
    obtain ⟨k9, hV⟩ := hV
    obtain ⟨k8, hV⟩ := hV
    refine r_putZ hC dX2_addLine_106 fl_2_38 ft_2 rfl rf_2_8 ty_2_8 lq_2 k9 k8 (nmH (fun h1 k9 => ?_))
    replace hV := hV h1 k9
    exact ok_X2_addLine_109 hC hQ a0 a2 a4 a5 h1 hV
set_option maxRecDepth 100000 in
set_option maxHeartbeats 4000000 in
theorem ok_X2_addLine_9 {E : Ev} {X : Xt} {l0 : Launch} {K : Hp → Prop} (hC : Cx E X l0 RX2 cX2_addLine 7 rm_X2_addLine) (hQ : CQ E X "addLine" none rm_X2_addLine (KV K)) : ∀ (n : Nat) (a0 : Nat) (a2 : Int32) (a4 : Int32) (a5 : Int32) (a6 : Int32) (h : Hp), V_X2_addLine_9 K n a0 a2 a4 a5 a6 h → WW E X h 0 0 9 [some (rv a0), none, some (.int a2), none, some (.int a4), some (.int a5), some (.int a6)] [] := by
  intro n
  induction n with
  | zero => intro a0 a2 a4 a5 a6 h hV; exact hV.elim
  | succ n ih =>
    intro a0 a2 a4 a5 a6 h hV
    unfold V_X2_addLine_9 at hV
    refine r_iload hC dX2_addLine_9 rfl ?_
    refine r_iload_n hC dX2_addLine_11 rfl ?_
    refine r_icmp_ge (tgt := 97) hC dX2_addLine_12 (by decide) (fun k9 => ?_) (fun k9 => ?_)
    · replace hV := hV.1 k9
      refine r_sub (lo1 := [some (rv a0), none, some (.int a2), none, some (.int a4), some (.int a5), none]) ⟨Or.inr rfl, ⟨Or.inl rfl, ⟨Or.inr rfl, ⟨Or.inl rfl, ⟨Or.inr rfl, ⟨Or.inr rfl, ⟨Or.inl rfl, trivial⟩⟩⟩⟩⟩⟩⟩ ?_
      exact ok_X2_addLine_97 hC hQ a0 a2 a4 a5 h hV
    · replace hV := hV.2 k9
      refine r_iload hC dX2_addLine_15 rfl ?_
      refine r_aload_n hC dX2_addLine_17 rfl ?_
      obtain ⟨k9, hV⟩ := hV
      refine r_getR hC dX2_addLine_18 fl_2_9 rf_2_0 lq_2 k9 ?_
      obtain ⟨k9, hV⟩ := hV
      refine r_alen (kd := 25) hC dX2_addLine_21 (by decide) k9 ?_
      refine r_icmp_ge (tgt := 97) hC dX2_addLine_22 (by decide) (fun k9 => ?_) (fun k9 => ?_)
      · replace hV := hV.1 k9
        refine r_sub (lo1 := [some (rv a0), none, some (.int a2), none, some (.int a4), some (.int a5), none]) ⟨Or.inr rfl, ⟨Or.inl rfl, ⟨Or.inr rfl, ⟨Or.inl rfl, ⟨Or.inr rfl, ⟨Or.inr rfl, ⟨Or.inl rfl, trivial⟩⟩⟩⟩⟩⟩⟩ ?_
        exact ok_X2_addLine_97 hC hQ a0 a2 a4 a5 h hV
      · replace hV := hV.2 k9
        refine r_aload_n hC dX2_addLine_25 rfl ?_
        obtain ⟨k9, hV⟩ := hV
        refine r_getR hC dX2_addLine_26 fl_2_9 rf_2_0 lq_2 k9 ?_
        refine r_iload hC dX2_addLine_29 rfl ?_
        obtain ⟨k9, k8, hV⟩ := hV
        refine r_cald (kd := 25) hC dX2_addLine_31 (by decide) rfl k9 k8 ?_
        refine r_callSN (As := [.int (hI h (hR h a0 0) (ix a6))]) hC dX2_addLine_32 rfl cf_X6_isLetter nl_2_60 st_X6_isLetter rfl ⟨(Nat.le_of_ble_eq_true rfl), (Nat.le_of_ble_eq_true rfl), (Nat.le_of_ble_eq_true rfl), (Nat.le_of_ble_eq_true rfl)⟩ cs0 (Nat.le_of_ble_eq_true rfl) (con_X6_isLetter (hI h (hR h a0 0) (ix a6)) h _ hV) rfl (kI (k := 0) (n := 0) (fun r1 h1 hV => ?_))
        refine r_if_eq (tgt := 88) hC dX2_addLine_35 (by decide) (fun k9 => ?_) (fun k9 => ?_)
        · replace hV := hV.1 k9
          refine r_iinc (v := 1) (lo1 := [some (rv a0), none, some (.int a2), none, some (.int a4), some (.int (a5 + 1)), some (.int a6)]) hC dX2_addLine_88 rfl (by decide) (pvI rfl) rfl ?_
          exact ok_X2_addLine_91 hC hQ ih a0 a2 a4 (a5 + 1) a6 h1 hV
        · replace hV := hV.2 k9
          refine r_iload hC dX2_addLine_38 rfl ?_
          refine r_aload_n hC dX2_addLine_40 rfl ?_
          obtain ⟨k9, hV⟩ := hV
          refine r_getR hC dX2_addLine_41 fl_2_9 rf_2_0 lq_2 k9 ?_
          refine r_iload hC dX2_addLine_44 rfl ?_
          obtain ⟨k9, k8, hV⟩ := hV
          refine r_cald (kd := 25) hC dX2_addLine_46 (by decide) rfl k9 k8 ?_
          refine r_bipush (v := 97) hC dX2_addLine_47 (by decide) ?_
          refine r_isub hC dX2_addLine_49 ?_
          refine r_callSN (As := [.int ((hI h1 (hR h1 a0 0) (ix a6)) - 97)]) hC dX2_addLine_50 rfl cf_X6_widthOf nl_2_64 st_X6_widthOf rfl ⟨(Nat.le_of_ble_eq_true rfl), (Nat.le_of_ble_eq_true rfl), (Nat.le_of_ble_eq_true rfl), (Nat.le_of_ble_eq_true rfl)⟩ (csI cs0) (Nat.le_of_ble_eq_true rfl) (con_X6_widthOf ((hI h1 (hR h1 a0 0) (ix a6)) - 97) h1 _ hV) rfl (kI (k := 0) (n := 0) (fun r2 h2 hV => ?_))
          refine r_isub hC dX2_addLine_53 ?_
          refine r_istore (lo1 := [some (rv a0), none, some (.int a2), none, some (.int (a4 - r2)), some (.int a5), some (.int a6)]) hC dX2_addLine_54 (Nat.le_of_ble_eq_true rfl) (pvN rfl) rfl ?_
          refine r_aload_n hC dX2_addLine_56 rfl ?_
          obtain ⟨k9, hV⟩ := hV
          refine r_getR hC dX2_addLine_57 fl_2_15 rf_2_1 lq_2 k9 ?_
          refine r_aload_n hC dX2_addLine_60 rfl ?_
          obtain ⟨k9, hV⟩ := hV
          refine r_getR hC dX2_addLine_61 fl_2_9 rf_2_0 lq_2 k9 ?_
          refine r_iload hC dX2_addLine_64 rfl ?_
          obtain ⟨k9, k8, hV⟩ := hV
          refine r_cald (kd := 25) hC dX2_addLine_66 (by decide) rfl k9 k8 ?_
          refine r_bipush (v := 97) hC dX2_addLine_67 (by decide) ?_
          refine r_isub hC dX2_addLine_69 ?_
          refine r_dup2 hC dX2_addLine_70 rfl (rv_cat _) ?_
          obtain ⟨k9, k8, hV⟩ := hV
          refine r_iald (kd := 31) hC dX2_addLine_71 (by decide) rfl k9 k8 ?_
          refine r_iconst (v := 1) hC dX2_addLine_72 (by decide) ?_
          refine r_iadd hC dX2_addLine_73 ?_
          obtain ⟨k9, k8, hV⟩ := hV
          refine r_iast (kd := 31) hC dX2_addLine_74 (by decide) rfl k9 k8 (nmH (fun h3 k9 => ?_))
          replace hV := hV h3 k9
          refine r_aload_n hC dX2_addLine_75 rfl ?_
          refine r_dup hC dX2_addLine_76 (rv_cat _) ?_
          obtain ⟨k9, hV⟩ := hV
          refine r_getI hC dX2_addLine_77 fl_2_32 rf_2_6 lq_2 k9 ?_
          refine r_iconst (v := 1) hC dX2_addLine_80 (by decide) ?_
          refine r_iadd hC dX2_addLine_81 ?_
          obtain ⟨k9, hV⟩ := hV
          refine r_putI hC dX2_addLine_82 fl_2_32 ft_2 rfl rf_2_6 ty_2_6 lq_2 k9 (nmH (fun h4 k9 => ?_))
          replace hV := hV h4 k9
          refine r_goto (tgt := 91) hC dX2_addLine_85 (by decide) ?_
          exact ok_X2_addLine_91 hC hQ ih a0 a2 (a4 - r2) a5 a6 h4 hV
set_option maxRecDepth 100000 in
set_option maxHeartbeats 4000000 in
theorem ok_X2_addLine_0 {E : Ev} {X : Xt} {l0 : Launch} {K : Hp → Prop} (hC : Cx E X l0 RX2 cX2_addLine 7 rm_X2_addLine) (hQ : CQ E X "addLine" none rm_X2_addLine (KV K)) (a0 : Nat) (a1 : Int32) (a2 : Int32) (a3 : Int32) (h : Hp) (hV : V_X2_addLine a0 a1 a2 a3 h K) : WW E X h 0 0 0 [some (rv a0), some (.int a1), some (.int a2), some (.int a3), none, none, none] [] := by
  unfold V_X2_addLine at hV
  refine r_iload_n hC dX2_addLine_0 rfl ?_
  refine r_istore (lo1 := [some (rv a0), some (.int a1), some (.int a2), some (.int a3), some (.int a3), none, none]) hC dX2_addLine_1 (Nat.le_of_ble_eq_true rfl) (pvI rfl) rfl ?_
  refine r_iconst (v := 0) hC dX2_addLine_3 (by decide) ?_
  refine r_istore (lo1 := [some (rv a0), some (.int a1), some (.int a2), some (.int a3), some (.int a3), some (.int 0), none]) hC dX2_addLine_4 (Nat.le_of_ble_eq_true rfl) (pvI rfl) rfl ?_
  refine r_iload_n hC dX2_addLine_6 rfl ?_
  refine r_istore (lo1 := [some (rv a0), some (.int a1), some (.int a2), some (.int a3), some (.int a3), some (.int 0), some (.int a1)]) hC dX2_addLine_7 (Nat.le_of_ble_eq_true rfl) (pvI rfl) rfl ?_
  refine r_sub (lo1 := [some (rv a0), none, some (.int a2), none, some (.int a3), some (.int 0), some (.int a1)]) ⟨Or.inr rfl, ⟨Or.inl rfl, ⟨Or.inr rfl, ⟨Or.inl rfl, ⟨Or.inr rfl, ⟨Or.inr rfl, ⟨Or.inr rfl, trivial⟩⟩⟩⟩⟩⟩⟩ ?_
  obtain ⟨n9, hV⟩ := hV
  exact ok_X2_addLine_9 hC hQ n9 a0 a2 a3 0 a1 h hV
set_option maxRecDepth 100000 in
set_option maxHeartbeats 4000000 in
theorem con_X2_addLine {E : Ev} {l0 : Launch} (a0 : Nat) (a1 : Int32) (a2 : Int32) (a3 : Int32) (h : Hp) (K : Hp → Prop) (hV : V_X2_addLine a0 a1 a2 a3 h K) : Con E l0 yX2_addLine cX2_addLine 7 none rm_X2_addLine [rv a0, .int a1, .int a2, .int a3] h (KV K) := by
  refine Con.of (by decide +kernel) (cat_R (cat_I (cat_I (cat_I cat_nil)))) (Nat.le_of_ble_eq_true rfl) (fun X hC hQ => ?_)
  refine r_sub (lo1 := [some (rv a0), some (.int a1), some (.int a2), some (.int a3), none, none, none]) (show lsub [some (rv a0), some (.int a1), some (.int a2), some (.int a3), none, none, none] _ from ⟨Or.inr rfl, ⟨Or.inr rfl, ⟨Or.inr rfl, ⟨Or.inr rfl, ⟨Or.inr rfl, ⟨Or.inr rfl, ⟨Or.inr rfl, trivial⟩⟩⟩⟩⟩⟩⟩) ?_
  exact ok_X2_addLine_0 hC hQ a0 a1 a2 a3 h hV
theorem dX2_firstGap_0 : decode cX2_firstGap 0 = .ok (.iload_n 1, 1) := by decide +kernel
theorem dX2_firstGap_1 : decode cX2_firstGap 1 = .ok (.ifCond .le 23, 3) := by decide +kernel
theorem dX2_firstGap_4 : decode cX2_firstGap 4 = .ok (.iload_n 1, 1) := by decide +kernel
theorem dX2_firstGap_5 : decode cX2_firstGap 5 = .ok (.aload_n 0, 1) := by decide +kernel
theorem dX2_firstGap_6 : decode cX2_firstGap 6 = .ok (.getfield 22, 3) := by decide +kernel
theorem dX2_firstGap_9 : decode cX2_firstGap 9 = .ok (.arraylength, 1) := by decide +kernel
theorem dX2_firstGap_10 : decode cX2_firstGap 10 = .ok (.if_icmp .ge 14, 3) := by decide +kernel
theorem dX2_firstGap_13 : decode cX2_firstGap 13 = .ok (.aload_n 0, 1) := by decide +kernel
theorem dX2_firstGap_14 : decode cX2_firstGap 14 = .ok (.getfield 22, 3) := by decide +kernel
theorem dX2_firstGap_17 : decode cX2_firstGap 17 = .ok (.iload_n 1, 1) := by decide +kernel
theorem dX2_firstGap_18 : decode cX2_firstGap 18 = .ok (.iconst 1, 1) := by decide +kernel
theorem dX2_firstGap_19 : decode cX2_firstGap 19 = .ok (.isub, 1) := by decide +kernel
theorem dX2_firstGap_20 : decode cX2_firstGap 20 = .ok (.iaload, 1) := by decide +kernel
theorem dX2_firstGap_21 : decode cX2_firstGap 21 = .ok (.goto 4, 3) := by decide +kernel
theorem dX2_firstGap_24 : decode cX2_firstGap 24 = .ok (.iconst 0, 1) := by decide +kernel
theorem dX2_firstGap_25 : decode cX2_firstGap 25 = .ok (.ireturn, 1) := by decide +kernel
def rm_X2_firstGap : Room := { frames := 0, cells := 0, slots := 0, locals := 0 }
set_option maxRecDepth 100000 in
set_option maxHeartbeats 4000000 in
theorem ok_X2_firstGap_25 {E : Ev} {X : Xt} {l0 : Launch} {K : Int32 → Hp → Prop} (hC : Cx E X l0 RX2 cX2_firstGap 2 rm_X2_firstGap) (hQ : CQ E X "firstGap" (some .int) rm_X2_firstGap (KI K)) (s0 : Int32) (h : Hp) (hV : V_X2_firstGap_25 K s0 h) : WW E X h 0 0 25 [none, none] [.int s0] := by
  unfold V_X2_firstGap_25 at hV
  exact r_iret hC hQ dX2_firstGap_25 (Nat.le_of_ble_eq_true rfl) (Nat.le_of_ble_eq_true rfl) ⟨_, rfl, hV⟩
set_option maxRecDepth 100000 in
set_option maxHeartbeats 4000000 in
theorem ok_X2_firstGap_24 {E : Ev} {X : Xt} {l0 : Launch} {K : Int32 → Hp → Prop} (hC : Cx E X l0 RX2 cX2_firstGap 2 rm_X2_firstGap) (hQ : CQ E X "firstGap" (some .int) rm_X2_firstGap (KI K)) (h : Hp) (hV : V_X2_firstGap_24 K  h) : WW E X h 0 0 24 [none, none] [] := by
  unfold V_X2_firstGap_24 at hV
  refine r_iconst (v := 0) hC dX2_firstGap_24 (by decide) ?_
  exact ok_X2_firstGap_25 hC hQ 0 h hV
set_option maxRecDepth 100000 in
set_option maxHeartbeats 4000000 in
theorem ok_X2_firstGap_0 {E : Ev} {X : Xt} {l0 : Launch} {K : Int32 → Hp → Prop} (hC : Cx E X l0 RX2 cX2_firstGap 2 rm_X2_firstGap) (hQ : CQ E X "firstGap" (some .int) rm_X2_firstGap (KI K)) (a0 : Nat) (a1 : Int32) (h : Hp) (hV : V_X2_firstGap a0 a1 h K) : WW E X h 0 0 0 [some (rv a0), some (.int a1)] [] := by
  unfold V_X2_firstGap at hV
  refine r_iload_n hC dX2_firstGap_0 rfl ?_
  refine r_if_le (tgt := 24) hC dX2_firstGap_1 (by decide) (fun k9 => ?_) (fun k9 => ?_)
  · replace hV := hV.1 k9
    refine r_sub (lo1 := [none, none]) ⟨Or.inl rfl, ⟨Or.inl rfl, trivial⟩⟩ ?_
    exact ok_X2_firstGap_24 hC hQ  h hV
  · replace hV := hV.2 k9
    refine r_iload_n hC dX2_firstGap_4 rfl ?_
    refine r_aload_n hC dX2_firstGap_5 rfl ?_
    obtain ⟨k9, hV⟩ := hV
    refine r_getR hC dX2_firstGap_6 fl_2_22 rf_2_3 lq_2 k9 ?_
    obtain ⟨k9, hV⟩ := hV
    refine r_alen (kd := 33) hC dX2_firstGap_9 (by decide) k9 ?_
    refine r_icmp_ge (tgt := 24) hC dX2_firstGap_10 (by decide) (fun k9 => ?_) (fun k9 => ?_)
    · replace hV := hV.1 k9
      refine r_sub (lo1 := [none, none]) ⟨Or.inl rfl, ⟨Or.inl rfl, trivial⟩⟩ ?_
      exact ok_X2_firstGap_24 hC hQ  h hV
    · replace hV := hV.2 k9
      refine r_aload_n hC dX2_firstGap_13 rfl ?_
      obtain ⟨k9, hV⟩ := hV
      refine r_getR hC dX2_firstGap_14 fl_2_22 rf_2_3 lq_2 k9 ?_
      refine r_iload_n hC dX2_firstGap_17 rfl ?_
      refine r_iconst (v := 1) hC dX2_firstGap_18 (by decide) ?_
      refine r_isub hC dX2_firstGap_19 ?_
      obtain ⟨k9, k8, hV⟩ := hV
      refine r_iald (kd := 33) hC dX2_firstGap_20 (by decide) rfl k9 k8 ?_
      refine r_goto (tgt := 25) hC dX2_firstGap_21 (by decide) ?_
      refine r_sub (lo1 := [none, none]) ⟨Or.inl rfl, ⟨Or.inl rfl, trivial⟩⟩ ?_
      exact ok_X2_firstGap_25 hC hQ (hI h (hR h a0 3) (ix (a1 - 1))) h hV
set_option maxRecDepth 100000 in
set_option maxHeartbeats 4000000 in
theorem con_X2_firstGap {E : Ev} {l0 : Launch} (a0 : Nat) (a1 : Int32) (h : Hp) (K : Int32 → Hp → Prop) (hV : V_X2_firstGap a0 a1 h K) : Con E l0 yX2_firstGap cX2_firstGap 2 (some .int) rm_X2_firstGap [rv a0, .int a1] h (KI K) := by
  refine Con.of (by decide +kernel) (cat_R (cat_I cat_nil)) (Nat.le_of_ble_eq_true rfl) (fun X hC hQ => ?_)
  refine r_sub (lo1 := [some (rv a0), some (.int a1)]) (show lsub [some (rv a0), some (.int a1)] _ from ⟨Or.inr rfl, ⟨Or.inr rfl, trivial⟩⟩) ?_
  exact ok_X2_firstGap_0 hC hQ a0 a1 h hV
theorem dX2_gapWidth_0 : decode cX2_gapWidth 0 = .ok (.iload_n 1, 1) := by decide +kernel
theorem dX2_gapWidth_1 : decode cX2_gapWidth 1 = .ok (.ifCond .lt 21, 3) := by decide +kernel
theorem dX2_gapWidth_4 : decode cX2_gapWidth 4 = .ok (.iload_n 1, 1) := by decide +kernel
theorem dX2_gapWidth_5 : decode cX2_gapWidth 5 = .ok (.aload_n 0, 1) := by decide +kernel
theorem dX2_gapWidth_6 : decode cX2_gapWidth 6 = .ok (.getfield 25, 3) := by decide +kernel
theorem dX2_gapWidth_9 : decode cX2_gapWidth 9 = .ok (.arraylength, 1) := by decide +kernel
theorem dX2_gapWidth_10 : decode cX2_gapWidth 10 = .ok (.if_icmp .ge 12, 3) := by decide +kernel
theorem dX2_gapWidth_13 : decode cX2_gapWidth 13 = .ok (.aload_n 0, 1) := by decide +kernel
theorem dX2_gapWidth_14 : decode cX2_gapWidth 14 = .ok (.getfield 25, 3) := by decide +kernel
theorem dX2_gapWidth_17 : decode cX2_gapWidth 17 = .ok (.iload_n 1, 1) := by decide +kernel
theorem dX2_gapWidth_18 : decode cX2_gapWidth 18 = .ok (.iaload, 1) := by decide +kernel
theorem dX2_gapWidth_19 : decode cX2_gapWidth 19 = .ok (.goto 4, 3) := by decide +kernel
theorem dX2_gapWidth_22 : decode cX2_gapWidth 22 = .ok (.iconst 0, 1) := by decide +kernel
theorem dX2_gapWidth_23 : decode cX2_gapWidth 23 = .ok (.ireturn, 1) := by decide +kernel
def rm_X2_gapWidth : Room := { frames := 0, cells := 0, slots := 0, locals := 0 }
set_option maxRecDepth 100000 in
set_option maxHeartbeats 4000000 in
theorem ok_X2_gapWidth_23 {E : Ev} {X : Xt} {l0 : Launch} {K : Int32 → Hp → Prop} (hC : Cx E X l0 RX2 cX2_gapWidth 2 rm_X2_gapWidth) (hQ : CQ E X "gapWidth" (some .int) rm_X2_gapWidth (KI K)) (s0 : Int32) (h : Hp) (hV : V_X2_gapWidth_23 K s0 h) : WW E X h 0 0 23 [none, none] [.int s0] := by
  unfold V_X2_gapWidth_23 at hV
  exact r_iret hC hQ dX2_gapWidth_23 (Nat.le_of_ble_eq_true rfl) (Nat.le_of_ble_eq_true rfl) ⟨_, rfl, hV⟩
set_option maxRecDepth 100000 in
set_option maxHeartbeats 4000000 in
theorem ok_X2_gapWidth_22 {E : Ev} {X : Xt} {l0 : Launch} {K : Int32 → Hp → Prop} (hC : Cx E X l0 RX2 cX2_gapWidth 2 rm_X2_gapWidth) (hQ : CQ E X "gapWidth" (some .int) rm_X2_gapWidth (KI K)) (h : Hp) (hV : V_X2_gapWidth_22 K  h) : WW E X h 0 0 22 [none, none] [] := by
  unfold V_X2_gapWidth_22 at hV
  refine r_iconst (v := 0) hC dX2_gapWidth_22 (by decide) ?_
  exact ok_X2_gapWidth_23 hC hQ 0 h hV
set_option maxRecDepth 100000 in
set_option maxHeartbeats 4000000 in
theorem ok_X2_gapWidth_0 {E : Ev} {X : Xt} {l0 : Launch} {K : Int32 → Hp → Prop} (hC : Cx E X l0 RX2 cX2_gapWidth 2 rm_X2_gapWidth) (hQ : CQ E X "gapWidth" (some .int) rm_X2_gapWidth (KI K)) (a0 : Nat) (a1 : Int32) (h : Hp) (hV : V_X2_gapWidth a0 a1 h K) : WW E X h 0 0 0 [some (rv a0), some (.int a1)] [] := by
  unfold V_X2_gapWidth at hV
  refine r_iload_n hC dX2_gapWidth_0 rfl ?_
  refine r_if_lt (tgt := 22) hC dX2_gapWidth_1 (by decide) (fun k9 => ?_) (fun k9 => ?_)
  · replace hV := hV.1 k9
    refine r_sub (lo1 := [none, none]) ⟨Or.inl rfl, ⟨Or.inl rfl, trivial⟩⟩ ?_
    exact ok_X2_gapWidth_22 hC hQ  h hV
  · replace hV := hV.2 k9
    refine r_iload_n hC dX2_gapWidth_4 rfl ?_
    refine r_aload_n hC dX2_gapWidth_5 rfl ?_
    obtain ⟨k9, hV⟩ := hV
    refine r_getR hC dX2_gapWidth_6 fl_2_25 rf_2_4 lq_2 k9 ?_
    obtain ⟨k9, hV⟩ := hV
    refine r_alen (kd := 34) hC dX2_gapWidth_9 (by decide) k9 ?_
    refine r_icmp_ge (tgt := 22) hC dX2_gapWidth_10 (by decide) (fun k9 => ?_) (fun k9 => ?_)
    · replace hV := hV.1 k9
      refine r_sub (lo1 := [none, none]) ⟨Or.inl rfl, ⟨Or.inl rfl, trivial⟩⟩ ?_
      exact ok_X2_gapWidth_22 hC hQ  h hV
    · replace hV := hV.2 k9
      refine r_aload_n hC dX2_gapWidth_13 rfl ?_
      obtain ⟨k9, hV⟩ := hV
      refine r_getR hC dX2_gapWidth_14 fl_2_25 rf_2_4 lq_2 k9 ?_
      refine r_iload_n hC dX2_gapWidth_17 rfl ?_
      obtain ⟨k9, k8, hV⟩ := hV
      refine r_iald (kd := 34) hC dX2_gapWidth_18 (by decide) rfl k9 k8 ?_
      refine r_goto (tgt := 23) hC dX2_gapWidth_19 (by decide) ?_
      refine r_sub (lo1 := [none, none]) ⟨Or.inl rfl, ⟨Or.inl rfl, trivial⟩⟩ ?_
      exact ok_X2_gapWidth_23 hC hQ (hI h (hR h a0 4) (ix a1)) h hV
set_option maxRecDepth 100000 in
set_option maxHeartbeats 4000000 in
theorem con_X2_gapWidth {E : Ev} {l0 : Launch} (a0 : Nat) (a1 : Int32) (h : Hp) (K : Int32 → Hp → Prop) (hV : V_X2_gapWidth a0 a1 h K) : Con E l0 yX2_gapWidth cX2_gapWidth 2 (some .int) rm_X2_gapWidth [rv a0, .int a1] h (KI K) := by
  refine Con.of (by decide +kernel) (cat_R (cat_I cat_nil)) (Nat.le_of_ble_eq_true rfl) (fun X hC hQ => ?_)
  refine r_sub (lo1 := [some (rv a0), some (.int a1)]) (show lsub [some (rv a0), some (.int a1)] _ from ⟨Or.inr rfl, ⟨Or.inr rfl, trivial⟩⟩) ?_
  exact ok_X2_gapWidth_0 hC hQ a0 a1 h hV
theorem dX2_hasLine_0 : decode cX2_hasLine 0 = .ok (.iload_n 1, 1) := by decide +kernel
theorem dX2_hasLine_1 : decode cX2_hasLine 1 = .ok (.ifCond .lt 21, 3) := by decide +kernel
theorem dX2_hasLine_4 : decode cX2_hasLine 4 = .ok (.iload_n 1, 1) := by decide +kernel
theorem dX2_hasLine_5 : decode cX2_hasLine 5 = .ok (.aload_n 0, 1) := by decide +kernel
theorem dX2_hasLine_6 : decode cX2_hasLine 6 = .ok (.getfield 28, 3) := by decide +kernel
theorem dX2_hasLine_9 : decode cX2_hasLine 9 = .ok (.if_icmp .ge 13, 3) := by decide +kernel
theorem dX2_hasLine_12 : decode cX2_hasLine 12 = .ok (.iload_n 1, 1) := by decide +kernel
theorem dX2_hasLine_13 : decode cX2_hasLine 13 = .ok (.bipush 30, 2) := by decide +kernel
theorem dX2_hasLine_15 : decode cX2_hasLine 15 = .ok (.if_icmp .ge 7, 3) := by decide +kernel
theorem dX2_hasLine_18 : decode cX2_hasLine 18 = .ok (.iconst 1, 1) := by decide +kernel
theorem dX2_hasLine_19 : decode cX2_hasLine 19 = .ok (.goto 4, 3) := by decide +kernel
theorem dX2_hasLine_22 : decode cX2_hasLine 22 = .ok (.iconst 0, 1) := by decide +kernel
theorem dX2_hasLine_23 : decode cX2_hasLine 23 = .ok (.ireturn, 1) := by decide +kernel
def rm_X2_hasLine : Room := { frames := 0, cells := 0, slots := 0, locals := 0 }
set_option maxRecDepth 100000 in
set_option maxHeartbeats 4000000 in
theorem ok_X2_hasLine_23 {E : Ev} {X : Xt} {l0 : Launch} {K : Int32 → Hp → Prop} (hC : Cx E X l0 RX2 cX2_hasLine 2 rm_X2_hasLine) (hQ : CQ E X "hasLine" (some .boolean) rm_X2_hasLine (KI K)) (s0 : Int32) (h : Hp) (hV : V_X2_hasLine_23 K s0 h) : WW E X h 0 0 23 [none, none] [.int s0] := by
  unfold V_X2_hasLine_23 at hV
  exact r_zret hC hQ dX2_hasLine_23 (Nat.le_of_ble_eq_true rfl) (Nat.le_of_ble_eq_true rfl) hV.1 ⟨_, rfl, hV.2⟩
set_option maxRecDepth 100000 in
set_option maxHeartbeats 4000000 in
theorem ok_X2_hasLine_22 {E : Ev} {X : Xt} {l0 : Launch} {K : Int32 → Hp → Prop} (hC : Cx E X l0 RX2 cX2_hasLine 2 rm_X2_hasLine) (hQ : CQ E X "hasLine" (some .boolean) rm_X2_hasLine (KI K)) (h : Hp) (hV : V_X2_hasLine_22 K  h) : WW E X h 0 0 22 [none, none] [] := by
  unfold V_X2_hasLine_22 at hV
  refine r_iconst (v := 0) hC dX2_hasLine_22 (by decide) ?_
  exact ok_X2_hasLine_23 hC hQ 0 h hV
set_option maxRecDepth 100000 in
set_option maxHeartbeats 4000000 in
theorem ok_X2_hasLine_0 {E : Ev} {X : Xt} {l0 : Launch} {K : Int32 → Hp → Prop} (hC : Cx E X l0 RX2 cX2_hasLine 2 rm_X2_hasLine) (hQ : CQ E X "hasLine" (some .boolean) rm_X2_hasLine (KI K)) (a0 : Nat) (a1 : Int32) (h : Hp) (hV : V_X2_hasLine a0 a1 h K) : WW E X h 0 0 0 [some (rv a0), some (.int a1)] [] := by
  unfold V_X2_hasLine at hV
  refine r_iload_n hC dX2_hasLine_0 rfl ?_
  refine r_if_lt (tgt := 22) hC dX2_hasLine_1 (by decide) (fun k9 => ?_) (fun k9 => ?_)
  · replace hV := hV.1 k9
    refine r_sub (lo1 := [none, none]) ⟨Or.inl rfl, ⟨Or.inl rfl, trivial⟩⟩ ?_
    exact ok_X2_hasLine_22 hC hQ  h hV
  · replace hV := hV.2 k9
    refine r_iload_n hC dX2_hasLine_4 rfl ?_
    refine r_aload_n hC dX2_hasLine_5 rfl ?_
    obtain ⟨k9, hV⟩ := hV
    refine r_getI hC dX2_hasLine_6 fl_2_28 rf_2_5 lq_2 k9 ?_
    refine r_icmp_ge (tgt := 22) hC dX2_hasLine_9 (by decide) (fun k9 => ?_) (fun k9 => ?_)
    · replace hV := hV.1 k9
      refine r_sub (lo1 := [none, none]) ⟨Or.inl rfl, ⟨Or.inl rfl, trivial⟩⟩ ?_
      exact ok_X2_hasLine_22 hC hQ  h hV
    · replace hV := hV.2 k9
      refine r_iload_n hC dX2_hasLine_12 rfl ?_
      refine r_bipush (v := 30) hC dX2_hasLine_13 (by decide) ?_
      refine r_icmp_ge (tgt := 22) hC dX2_hasLine_15 (by decide) (fun k9 => ?_) (fun k9 => ?_)
      · replace hV := hV.1 k9
        refine r_sub (lo1 := [none, none]) ⟨Or.inl rfl, ⟨Or.inl rfl, trivial⟩⟩ ?_
        exact ok_X2_hasLine_22 hC hQ  h hV
      · replace hV := hV.2 k9
        refine r_iconst (v := 1) hC dX2_hasLine_18 (by decide) ?_
        refine r_goto (tgt := 23) hC dX2_hasLine_19 (by decide) ?_
        refine r_sub (lo1 := [none, none]) ⟨Or.inl rfl, ⟨Or.inl rfl, trivial⟩⟩ ?_
        exact ok_X2_hasLine_23 hC hQ 1 h hV
set_option maxRecDepth 100000 in
set_option maxHeartbeats 4000000 in
theorem con_X2_hasLine {E : Ev} {l0 : Launch} (a0 : Nat) (a1 : Int32) (h : Hp) (K : Int32 → Hp → Prop) (hV : V_X2_hasLine a0 a1 h K) : Con E l0 yX2_hasLine cX2_hasLine 2 (some .boolean) rm_X2_hasLine [rv a0, .int a1] h (KI K) := by
  refine Con.of (by decide +kernel) (cat_R (cat_I cat_nil)) (Nat.le_of_ble_eq_true rfl) (fun X hC hQ => ?_)
  refine r_sub (lo1 := [some (rv a0), some (.int a1)]) (show lsub [some (rv a0), some (.int a1)] _ from ⟨Or.inr rfl, ⟨Or.inr rfl, trivial⟩⟩) ?_
  exact ok_X2_hasLine_0 hC hQ a0 a1 h hV
theorem dX2_init_0 : decode cX2_init 0 = .ok (.aload_n 0, 1) := by decide +kernel
theorem dX2_init_1 : decode cX2_init 1 = .ok (.invokespecial 3, 3) := by decide +kernel
theorem dX2_init_4 : decode cX2_init 4 = .ok (.aload_n 0, 1) := by decide +kernel
theorem dX2_init_5 : decode cX2_init 5 = .ok (.bipush 60, 2) := by decide +kernel
theorem dX2_init_7 : decode cX2_init 7 = .ok (.newarray .char, 2) := by decide +kernel
theorem dX2_init_9 : decode cX2_init 9 = .ok (.putfield 9, 3) := by decide +kernel
theorem dX2_init_12 : decode cX2_init 12 = .ok (.aload_n 0, 1) := by decide +kernel
theorem dX2_init_13 : decode cX2_init 13 = .ok (.bipush 26, 2) := by decide +kernel
theorem dX2_init_15 : decode cX2_init 15 = .ok (.newarray .int, 2) := by decide +kernel
theorem dX2_init_17 : decode cX2_init 17 = .ok (.putfield 15, 3) := by decide +kernel
theorem dX2_init_20 : decode cX2_init 20 = .ok (.aload_n 0, 1) := by decide +kernel
theorem dX2_init_21 : decode cX2_init 21 = .ok (.bipush 30, 2) := by decide +kernel
theorem dX2_init_23 : decode cX2_init 23 = .ok (.newarray .int, 2) := by decide +kernel
theorem dX2_init_25 : decode cX2_init 25 = .ok (.putfield 19, 3) := by decide +kernel
theorem dX2_init_28 : decode cX2_init 28 = .ok (.aload_n 0, 1) := by decide +kernel
theorem dX2_init_29 : decode cX2_init 29 = .ok (.bipush 30, 2) := by decide +kernel
theorem dX2_init_31 : decode cX2_init 31 = .ok (.newarray .int, 2) := by decide +kernel
theorem dX2_init_33 : decode cX2_init 33 = .ok (.putfield 22, 3) := by decide +kernel
theorem dX2_init_36 : decode cX2_init 36 = .ok (.aload_n 0, 1) := by decide +kernel
theorem dX2_init_37 : decode cX2_init 37 = .ok (.bipush 30, 2) := by decide +kernel
theorem dX2_init_39 : decode cX2_init 39 = .ok (.newarray .int, 2) := by decide +kernel
theorem dX2_init_41 : decode cX2_init 41 = .ok (.putfield 25, 3) := by decide +kernel
theorem dX2_init_44 : decode cX2_init 44 = .ok (.aload_n 0, 1) := by decide +kernel
theorem dX2_init_45 : decode cX2_init 45 = .ok (.iconst 0, 1) := by decide +kernel
theorem dX2_init_46 : decode cX2_init 46 = .ok (.putfield 28, 3) := by decide +kernel
theorem dX2_init_49 : decode cX2_init 49 = .ok (.aload_n 0, 1) := by decide +kernel
theorem dX2_init_50 : decode cX2_init 50 = .ok (.iconst 0, 1) := by decide +kernel
theorem dX2_init_51 : decode cX2_init 51 = .ok (.putfield 32, 3) := by decide +kernel
theorem dX2_init_54 : decode cX2_init 54 = .ok (.aload_n 0, 1) := by decide +kernel
theorem dX2_init_55 : decode cX2_init 55 = .ok (.iconst 0, 1) := by decide +kernel
theorem dX2_init_56 : decode cX2_init 56 = .ok (.putfield 35, 3) := by decide +kernel
theorem dX2_init_59 : decode cX2_init 59 = .ok (.aload_n 0, 1) := by decide +kernel
theorem dX2_init_60 : decode cX2_init 60 = .ok (.iconst 0, 1) := by decide +kernel
theorem dX2_init_61 : decode cX2_init 61 = .ok (.putfield 38, 3) := by decide +kernel
theorem dX2_init_64 : decode cX2_init 64 = .ok (.iconst 0, 1) := by decide +kernel
theorem dX2_init_65 : decode cX2_init 65 = .ok (.istore_n 3, 1) := by decide +kernel
theorem dX2_init_66 : decode cX2_init 66 = .ok (.aload_n 1, 1) := by decide +kernel
theorem dX2_init_67 : decode cX2_init 67 = .ok (.getfield 42, 3) := by decide +kernel
theorem dX2_init_70 : decode cX2_init 70 = .ok (.bipush 60, 2) := by decide +kernel
theorem dX2_init_72 : decode cX2_init 72 = .ok (.invokestatic 47, 3) := by decide +kernel
theorem dX2_init_75 : decode cX2_init 75 = .ok (.istore 4, 2) := by decide +kernel
theorem dX2_init_77 : decode cX2_init 77 = .ok (.iconst 0, 1) := by decide +kernel
theorem dX2_init_78 : decode cX2_init 78 = .ok (.istore 5, 2) := by decide +kernel
theorem dX2_init_80 : decode cX2_init 80 = .ok (.iload 5, 2) := by decide +kernel
theorem dX2_init_82 : decode cX2_init 82 = .ok (.iload 4, 2) := by decide +kernel
theorem dX2_init_84 : decode cX2_init 84 = .ok (.if_icmp .ge 48, 3) := by decide +kernel
theorem dX2_init_87 : decode cX2_init 87 = .ok (.aload_n 0, 1) := by decide +kernel
theorem dX2_init_88 : decode cX2_init 88 = .ok (.getfield 9, 3) := by decide +kernel
theorem dX2_init_91 : decode cX2_init 91 = .ok (.iload 5, 2) := by decide +kernel
theorem dX2_init_93 : decode cX2_init 93 = .ok (.aload_n 1, 1) := by decide +kernel
theorem dX2_init_94 : decode cX2_init 94 = .ok (.getfield 53, 3) := by decide +kernel
theorem dX2_init_97 : decode cX2_init 97 = .ok (.iload 5, 2) := by decide +kernel
theorem dX2_init_99 : decode cX2_init 99 = .ok (.caload, 1) := by decide +kernel
theorem dX2_init_100 : decode cX2_init 100 = .ok (.castore, 1) := by decide +kernel
theorem dX2_init_101 : decode cX2_init 101 = .ok (.aload_n 0, 1) := by decide +kernel
theorem dX2_init_102 : decode cX2_init 102 = .ok (.getfield 9, 3) := by decide +kernel
theorem dX2_init_105 : decode cX2_init 105 = .ok (.iload 5, 2) := by decide +kernel
theorem dX2_init_107 : decode cX2_init 107 = .ok (.caload, 1) := by decide +kernel
theorem dX2_init_108 : decode cX2_init 108 = .ok (.bipush 47, 2) := by decide +kernel
theorem dX2_init_110 : decode cX2_init 110 = .ok (.if_icmp .ne 16, 3) := by decide +kernel
theorem dX2_init_113 : decode cX2_init 113 = .ok (.aload_n 0, 1) := by decide +kernel
theorem dX2_init_114 : decode cX2_init 114 = .ok (.iload_n 3, 1) := by decide +kernel
theorem dX2_init_115 : decode cX2_init 115 = .ok (.iload 5, 2) := by decide +kernel
theorem dX2_init_117 : decode cX2_init 117 = .ok (.iload_n 2, 1) := by decide +kernel
theorem dX2_init_118 : decode cX2_init 118 = .ok (.invokevirtual 56, 3) := by decide +kernel
theorem dX2_init_121 : decode cX2_init 121 = .ok (.iload 5, 2) := by decide +kernel
theorem dX2_init_123 : decode cX2_init 123 = .ok (.iconst 1, 1) := by decide +kernel
theorem dX2_init_124 : decode cX2_init 124 = .ok (.iadd, 1) := by decide +kernel
theorem dX2_init_125 : decode cX2_init 125 = .ok (.istore_n 3, 1) := by decide +kernel
theorem dX2_init_126 : decode cX2_init 126 = .ok (.iinc 5 1, 3) := by decide +kernel
theorem dX2_init_129 : decode cX2_init 129 = .ok (.goto (-49), 3) := by decide +kernel
theorem dX2_init_132 : decode cX2_init 132 = .ok (.aload_n 0, 1) := by decide +kernel
theorem dX2_init_133 : decode cX2_init 133 = .ok (.iload_n 3, 1) := by decide +kernel
theorem dX2_init_134 : decode cX2_init 134 = .ok (.iload 4, 2) := by decide +kernel
theorem dX2_init_136 : decode cX2_init 136 = .ok (.iload_n 2, 1) := by decide +kernel
theorem dX2_init_137 : decode cX2_init 137 = .ok (.invokevirtual 56, 3) := by decide +kernel
theorem dX2_init_140 : decode cX2_init 140 = .ok (.return_, 1) := by decide +kernel
def rm_X2_init : Room := { frames := 2, cells := 5, slots := 176, locals := 52 }
set_option maxRecDepth 100000 in
set_option maxHeartbeats 4000000 in
theorem ok_X2_init_126 {E : Ev} {X : Xt} {l0 : Launch} {K : Hp → Prop} {C80 : Nat → Nat → Int32 → Int32 → Int32 → Int32 → Hp → Prop} (hC : Cx E X l0 RX2 cX2_init 6 rm_X2_init) (hQ : CQ E X "<init>" none rm_X2_init (KV K)) (hC80 : ∀ (a0 : Nat) (a1 : Nat) (a2 : Int32) (a3 : Int32) (a4 : Int32) (a5 : Int32) (h : Hp), C80 a0 a1 a2 a3 a4 a5 h → WW E X h 5 176 80 [some (rv a0), some (rv a1), some (.int a2), some (.int a3), some (.int a4), some (.int a5)] []) (a0 : Nat) (a1 : Nat) (a2 : Int32) (a3 : Int32) (a4 : Int32) (a5 : Int32) (h : Hp) (hV : V_X2_init_126 K C80 a0 a1 a2 a3 a4 a5 h) : WW E X h 5 176 126 [some (rv a0), some (rv a1), some (.int a2), some (.int a3), some (.int a4), some (.int a5)] [] := by
  unfold V_X2_init_126 at hV
  refine r_iinc (v := 1) (lo1 := [some (rv a0), some (rv a1), some (.int a2), some (.int a3), some (.int a4), some (.int (a5 + 1))]) hC dX2_init_126 rfl (by decide) (pvI rfl) rfl ?_
  refine r_goto (tgt := 80) hC dX2_init_129 (by decide) ?_
  exact hC80 a0 a1 a2 a3 a4 (a5 + 1) h hV
set_option maxRecDepth 100000 in
set_option maxHeartbeats 4000000 in
theorem ok_X2_init_80 {E : Ev} {X : Xt} {l0 : Launch} {K : Hp → Prop} (hC : Cx E X l0 RX2 cX2_init 6 rm_X2_init) (hQ : CQ E X "<init>" none rm_X2_init (KV K)) : ∀ (n : Nat) (a0 : Nat) (a1 : Nat) (a2 : Int32) (a3 : Int32) (a4 : Int32) (a5 : Int32) (h : Hp), V_X2_init_80 K n a0 a1 a2 a3 a4 a5 h → WW E X h 5 176 80 [some (rv a0), some (rv a1), some (.int a2), some (.int a3), some (.int a4), some (.int a5)] [] := by
  intro n
  induction n with
  | zero => intro a0 a1 a2 a3 a4 a5 h hV; exact hV.elim
  | succ n ih =>
    intro a0 a1 a2 a3 a4 a5 h hV
    unfold V_X2_init_80 at hV
    refine r_iload hC dX2_init_80 rfl ?_
    refine r_iload hC dX2_init_82 rfl ?_
    refine r_icmp_ge (tgt := 132) hC dX2_init_84 (by decide) (fun k9 => ?_) (fun k9 => ?_)
    · replace hV := hV.1 k9
      refine r_aload_n hC dX2_init_132 rfl ?_
      refine r_iload_n hC dX2_init_133 rfl ?_
      refine r_iload hC dX2_init_134 rfl ?_
      refine r_iload_n hC dX2_init_136 rfl ?_
      obtain ⟨k9, hV⟩ := hV
      refine r_callV (ci := 2) (As := [.int a3, .int a4, .int a2]) hC dX2_init_137 rfl cf_X2_addLine ml_2_56 im_X2_addLine sl_X2_addLine lq_2 rfl rfl k9 rfl ⟨(Nat.le_of_ble_eq_true rfl), (Nat.le_of_ble_eq_true rfl), (Nat.le_of_ble_eq_true rfl), (Nat.le_of_ble_eq_true rfl)⟩ cs0 (Nat.le_of_ble_eq_true rfl) (con_X2_addLine a0 a3 a4 a2 h _ hV) rfl (kV (k := 5) (n := 176) (fun h1 hV => ?_))
      exact r_vret hC hQ dX2_init_140 (Nat.le_of_ble_eq_true rfl) (Nat.le_of_ble_eq_true rfl) ⟨rfl, hV⟩
    · replace hV := hV.2 k9
      refine r_aload_n hC dX2_init_87 rfl ?_
      obtain ⟨k9, hV⟩ := hV
      refine r_getR hC dX2_init_88 fl_2_9 rf_2_0 lq_2 k9 ?_
      refine r_iload hC dX2_init_91 rfl ?_
      refine r_aload_n hC dX2_init_93 rfl ?_
      obtain ⟨k9, hV⟩ := hV
      refine r_getR hC dX2_init_94 fl_2_53 rf_0_0 lq_0 k9 ?_
      refine r_iload hC dX2_init_97 rfl ?_
      obtain ⟨k9, k8, hV⟩ := hV
      refine r_cald (kd := 21) hC dX2_init_99 (by decide) rfl k9 k8 ?_
      obtain ⟨k9, k8, hV⟩ := hV
      refine r_cast (kd := 25) hC dX2_init_100 (by decide) rfl k9 k8 (nmH (fun h1 k9 => ?_))
      replace hV := hV h1 k9
      refine r_aload_n hC dX2_init_101 rfl ?_
      obtain ⟨k9, hV⟩ := hV
      refine r_getR hC dX2_init_102 fl_2_9 rf_2_0 lq_2 k9 ?_
      refine r_iload hC dX2_init_105 rfl ?_
      obtain ⟨k9, k8, hV⟩ := hV
      refine r_cald (kd := 25) hC dX2_init_107 (by decide) rfl k9 k8 ?_
      refine r_bipush (v := 47) hC dX2_init_108 (by decide) ?_
      refine r_icmp_ne (tgt := 126) hC dX2_init_110 (by decide) (fun k9 => ?_) (fun k9 => ?_)
      · replace hV := hV.1 k9
        exact ok_X2_init_126 hC hQ ih a0 a1 a2 a3 a4 a5 h1 hV
      · replace hV := hV.2 k9
        refine r_aload_n hC dX2_init_113 rfl ?_
        refine r_iload_n hC dX2_init_114 rfl ?_
        refine r_iload hC dX2_init_115 rfl ?_
        refine r_iload_n hC dX2_init_117 rfl ?_
        obtain ⟨k9, hV⟩ := hV
        refine r_callV (ci := 2) (As := [.int a3, .int a5, .int a2]) hC dX2_init_118 rfl cf_X2_addLine ml_2_56 im_X2_addLine sl_X2_addLine lq_2 rfl rfl k9 rfl ⟨(Nat.le_of_ble_eq_true rfl), (Nat.le_of_ble_eq_true rfl), (Nat.le_of_ble_eq_true rfl), (Nat.le_of_ble_eq_true rfl)⟩ cs0 (Nat.le_of_ble_eq_true rfl) (con_X2_addLine a0 a3 a5 a2 h1 _ hV) rfl (kV (k := 5) (n := 176) (fun h2 hV => ?_))
        refine r_iload hC dX2_init_121 rfl ?_
        refine r_iconst (v := 1) hC dX2_init_123 (by decide) ?_
        refine r_iadd hC dX2_init_124 ?_
        refine r_istore_n (ii := 3) (lo1 := [some (rv a0), some (rv a1), some (.int a2), some (.int (a5 + 1)), some (.int a4), some (.int a5)]) hC dX2_init_125 rfl (Nat.le_of_ble_eq_true rfl) (pvI rfl) rfl ?_
        exact ok_X2_init_126 hC hQ ih a0 a1 a2 (a5 + 1) a4 a5 h2 hV
set_option maxRecDepth 100000 in
set_option maxHeartbeats 4000000 in
theorem ok_X2_init_0 {E : Ev} {X : Xt} {l0 : Launch} {K : Hp → Prop} (hC : Cx E X l0 RX2 cX2_init 6 rm_X2_init) (hQ : CQ E X "<init>" none rm_X2_init (KV K)) (a0 : Nat) (a1 : Nat) (a2 : Int32) (h : Hp) (hV : V_X2_init a0 a1 a2 h K) : WW E X h 0 0 0 [some (rv a0), some (rv a1), some (.int a2), none, none, none] [] := by
  unfold V_X2_init at hV
  refine r_aload_n hC dX2_init_0 rfl ?_
  obtain ⟨k9, hV⟩ := hV
  refine r_obj hC dX2_init_1 rfl ml_2_3 obj_i obj_c k9 cs0 ⟨Nat.le_of_ble_eq_true rfl, Nat.le_of_ble_eq_true rfl⟩ ?_
  refine r_aload_n hC dX2_init_4 rfl ?_
  refine r_bipush (v := 60) hC dX2_init_5 (by decide) ?_
  refine r_newarr (kd := 25) (d := 1) (N := 60) hC dX2_init_7 (by decide) rfl (by decide) rfl ka_1 (by decide) (by decide) (by decide) ⟨(Nat.le_of_ble_eq_true rfl), (Nat.le_of_ble_eq_true rfl)⟩ (fun q1 k9 k8 => nmH (fun h1 k7 => ?_))
  replace hV := hV q1 k9 k8 h1 k7
  obtain ⟨k9, hV⟩ := hV
  refine r_putFR hC hQ dX2_init_9 fl_2_9 ft_2 rfl rfl rf_2_0 ty_2_0 lq_2 k9 (nmH (fun h2 k9 => ?_))
  replace hV := hV h2 k9
  refine r_aload_n hC dX2_init_12 rfl ?_
  refine r_bipush (v := 26) hC dX2_init_13 (by decide) ?_
  refine r_newarr (kd := 31) (d := 0) (N := 26) hC dX2_init_15 (by decide) rfl (by decide) rfl ka_0 (by decide) (by decide) (by decide) ⟨(Nat.le_of_ble_eq_true rfl), (Nat.le_of_ble_eq_true rfl)⟩ (fun q2 k9 k8 => nmH (fun h3 k7 => ?_))
  replace hV := hV q2 k9 k8 h3 k7
  obtain ⟨k9, hV⟩ := hV
  refine r_putFR hC hQ dX2_init_17 fl_2_15 ft_2 rfl rfl rf_2_1 ty_2_1 lq_2 k9 (nmH (fun h4 k9 => ?_))
  replace hV := hV h4 k9
  refine r_aload_n hC dX2_init_20 rfl ?_
  refine r_bipush (v := 30) hC dX2_init_21 (by decide) ?_
  refine r_newarr (kd := 32) (d := 0) (N := 30) hC dX2_init_23 (by decide) rfl (by decide) rfl ka_0 (by decide) (by decide) (by decide) ⟨(Nat.le_of_ble_eq_true rfl), (Nat.le_of_ble_eq_true rfl)⟩ (fun q3 k9 k8 => nmH (fun h5 k7 => ?_))
  replace hV := hV q3 k9 k8 h5 k7
  obtain ⟨k9, hV⟩ := hV
  refine r_putFR hC hQ dX2_init_25 fl_2_19 ft_2 rfl rfl rf_2_2 ty_2_2 lq_2 k9 (nmH (fun h6 k9 => ?_))
  replace hV := hV h6 k9
  refine r_aload_n hC dX2_init_28 rfl ?_
  refine r_bipush (v := 30) hC dX2_init_29 (by decide) ?_
  refine r_newarr (kd := 33) (d := 0) (N := 30) hC dX2_init_31 (by decide) rfl (by decide) rfl ka_0 (by decide) (by decide) (by decide) ⟨(Nat.le_of_ble_eq_true rfl), (Nat.le_of_ble_eq_true rfl)⟩ (fun q4 k9 k8 => nmH (fun h7 k7 => ?_))
  replace hV := hV q4 k9 k8 h7 k7
  obtain ⟨k9, hV⟩ := hV
  refine r_putFR hC hQ dX2_init_33 fl_2_22 ft_2 rfl rfl rf_2_3 ty_2_3 lq_2 k9 (nmH (fun h8 k9 => ?_))
  replace hV := hV h8 k9
  refine r_aload_n hC dX2_init_36 rfl ?_
  refine r_bipush (v := 30) hC dX2_init_37 (by decide) ?_
  refine r_newarr (kd := 34) (d := 0) (N := 30) hC dX2_init_39 (by decide) rfl (by decide) rfl ka_0 (by decide) (by decide) (by decide) ⟨(Nat.le_of_ble_eq_true rfl), (Nat.le_of_ble_eq_true rfl)⟩ (fun q5 k9 k8 => nmH (fun h9 k7 => ?_))
  replace hV := hV q5 k9 k8 h9 k7
  obtain ⟨k9, hV⟩ := hV
  refine r_putFR hC hQ dX2_init_41 fl_2_25 ft_2 rfl rfl rf_2_4 ty_2_4 lq_2 k9 (nmH (fun h10 k9 => ?_))
  replace hV := hV h10 k9
  refine r_aload_n hC dX2_init_44 rfl ?_
  refine r_iconst (v := 0) hC dX2_init_45 (by decide) ?_
  obtain ⟨k9, hV⟩ := hV
  refine r_putI hC dX2_init_46 fl_2_28 ft_2 rfl rf_2_5 ty_2_5 lq_2 k9 (nmH (fun h11 k9 => ?_))
  replace hV := hV h11 k9
  refine r_aload_n hC dX2_init_49 rfl ?_
  refine r_iconst (v := 0) hC dX2_init_50 (by decide) ?_
  obtain ⟨k9, hV⟩ := hV
  refine r_putI hC dX2_init_51 fl_2_32 ft_2 rfl rf_2_6 ty_2_6 lq_2 k9 (nmH (fun h12 k9 => ?_))
  replace hV := hV h12 k9
  refine r_aload_n hC dX2_init_54 rfl ?_
  refine r_iconst (v := 0) hC dX2_init_55 (by decide) ?_
  obtain ⟨k9, hV⟩ := hV
  refine r_putI hC dX2_init_56 fl_2_35 ft_2 rfl rf_2_7 ty_2_7 lq_2 k9 (nmH (fun h13 k9 => ?_))
  replace hV := hV h13 k9
  refine r_aload_n hC dX2_init_59 rfl ?_
  refine r_iconst (v := 0) hC dX2_init_60 (by decide) ?_
  obtain ⟨k9, hV⟩ := hV
  obtain ⟨k8, hV⟩ := hV
  refine r_putZ hC dX2_init_61 fl_2_38 ft_2 rfl rf_2_8 ty_2_8 lq_2 k9 k8 (nmH (fun h14 k9 => ?_))
  replace hV := hV h14 k9
  refine r_iconst (v := 0) hC dX2_init_64 (by decide) ?_
  refine r_istore_n (ii := 3) (lo1 := [some (rv a0), some (rv a1), some (.int a2), some (.int 0), none, none]) hC dX2_init_65 rfl (Nat.le_of_ble_eq_true rfl) (pvI rfl) rfl ?_
  refine r_aload_n hC dX2_init_66 rfl ?_
  obtain ⟨k9, hV⟩ := hV
  refine r_getI hC dX2_init_67 fl_2_42 rf_0_1 lq_0 k9 ?_
  refine r_bipush (v := 60) hC dX2_init_70 (by decide) ?_
  refine r_min hC dX2_init_72 rfl ml_2_47 mmin_s mth_i mmin_c cs0 ⟨Nat.le_of_ble_eq_true rfl, Nat.le_of_ble_eq_true rfl, Nat.le_of_ble_eq_true rfl, Nat.le_of_ble_eq_true rfl⟩ ?_
  refine r_istore (lo1 := [some (rv a0), some (rv a1), some (.int a2), some (.int 0), some (.int (if 60 < hI h14 a1 1 then 60 else hI h14 a1 1)), none]) hC dX2_init_75 (Nat.le_of_ble_eq_true rfl) (pvI rfl) rfl ?_
  refine r_iconst (v := 0) hC dX2_init_77 (by decide) ?_
  refine r_istore (lo1 := [some (rv a0), some (rv a1), some (.int a2), some (.int 0), some (.int (if 60 < hI h14 a1 1 then 60 else hI h14 a1 1)), some (.int 0)]) hC dX2_init_78 (Nat.le_of_ble_eq_true rfl) (pvI rfl) rfl ?_
  obtain ⟨n9, hV⟩ := hV
  exact ok_X2_init_80 hC hQ n9 a0 a1 a2 0 (if 60 < hI h14 a1 1 then 60 else hI h14 a1 1) 0 h14 hV
set_option maxRecDepth 100000 in
set_option maxHeartbeats 4000000 in
theorem con_X2_init {E : Ev} {l0 : Launch} (a0 : Nat) (a1 : Nat) (a2 : Int32) (h : Hp) (K : Hp → Prop) (hV : V_X2_init a0 a1 a2 h K) : Con E l0 yX2_init cX2_init 6 none rm_X2_init [rv a0, rv a1, .int a2] h (KV K) := by
  refine Con.of (by decide +kernel) (cat_R (cat_R (cat_I cat_nil))) (Nat.le_of_ble_eq_true rfl) (fun X hC hQ => ?_)
  refine r_sub (lo1 := [some (rv a0), some (rv a1), some (.int a2), none, none, none]) (show lsub [some (rv a0), some (rv a1), some (.int a2), none, none, none] _ from ⟨Or.inr rfl, ⟨Or.inr rfl, ⟨Or.inr rfl, ⟨Or.inr rfl, ⟨Or.inr rfl, ⟨Or.inr rfl, trivial⟩⟩⟩⟩⟩⟩) ?_
  exact ok_X2_init_0 hC hQ a0 a1 a2 h hV
theorem dX2_lineStart_0 : decode cX2_lineStart 0 = .ok (.iload_n 1, 1) := by decide +kernel
theorem dX2_lineStart_1 : decode cX2_lineStart 1 = .ok (.ifCond .le 25, 3) := by decide +kernel
theorem dX2_lineStart_4 : decode cX2_lineStart 4 = .ok (.iload_n 1, 1) := by decide +kernel
theorem dX2_lineStart_5 : decode cX2_lineStart 5 = .ok (.aload_n 0, 1) := by decide +kernel
theorem dX2_lineStart_6 : decode cX2_lineStart 6 = .ok (.getfield 19, 3) := by decide +kernel
theorem dX2_lineStart_9 : decode cX2_lineStart 9 = .ok (.arraylength, 1) := by decide +kernel
theorem dX2_lineStart_10 : decode cX2_lineStart 10 = .ok (.if_icmp .ge 16, 3) := by decide +kernel
theorem dX2_lineStart_13 : decode cX2_lineStart 13 = .ok (.aload_n 0, 1) := by decide +kernel
theorem dX2_lineStart_14 : decode cX2_lineStart 14 = .ok (.getfield 19, 3) := by decide +kernel
theorem dX2_lineStart_17 : decode cX2_lineStart 17 = .ok (.iload_n 1, 1) := by decide +kernel
theorem dX2_lineStart_18 : decode cX2_lineStart 18 = .ok (.iconst 1, 1) := by decide +kernel
theorem dX2_lineStart_19 : decode cX2_lineStart 19 = .ok (.isub, 1) := by decide +kernel
theorem dX2_lineStart_20 : decode cX2_lineStart 20 = .ok (.iaload, 1) := by decide +kernel
theorem dX2_lineStart_21 : decode cX2_lineStart 21 = .ok (.iconst 1, 1) := by decide +kernel
theorem dX2_lineStart_22 : decode cX2_lineStart 22 = .ok (.iadd, 1) := by decide +kernel
theorem dX2_lineStart_23 : decode cX2_lineStart 23 = .ok (.goto 4, 3) := by decide +kernel
theorem dX2_lineStart_26 : decode cX2_lineStart 26 = .ok (.iconst 0, 1) := by decide +kernel
theorem dX2_lineStart_27 : decode cX2_lineStart 27 = .ok (.ireturn, 1) := by decide +kernel
def rm_X2_lineStart : Room := { frames := 0, cells := 0, slots := 0, locals := 0 }
set_option maxRecDepth 100000 in
set_option maxHeartbeats 4000000 in
theorem ok_X2_lineStart_27 {E : Ev} {X : Xt} {l0 : Launch} {K : Int32 → Hp → Prop} (hC : Cx E X l0 RX2 cX2_lineStart 2 rm_X2_lineStart) (hQ : CQ E X "lineStart" (some .int) rm_X2_lineStart (KI K)) (s0 : Int32) (h : Hp) (hV : V_X2_lineStart_27 K s0 h) : WW E X h 0 0 27 [none, none] [.int s0] := by
  unfold V_X2_lineStart_27 at hV
  exact r_iret hC hQ dX2_lineStart_27 (Nat.le_of_ble_eq_true rfl) (Nat.le_of_ble_eq_true rfl) ⟨_, rfl, hV⟩
set_option maxRecDepth 100000 in
set_option maxHeartbeats 4000000 in
theorem ok_X2_lineStart_26 {E : Ev} {X : Xt} {l0 : Launch} {K : Int32 → Hp → Prop} (hC : Cx E X l0 RX2 cX2_lineStart 2 rm_X2_lineStart) (hQ : CQ E X "lineStart" (some .int) rm_X2_lineStart (KI K)) (h : Hp) (hV : V_X2_lineStart_26 K  h) : WW E X h 0 0 26 [none, none] [] := by
  unfold V_X2_lineStart_26 at hV
  refine r_iconst (v := 0) hC dX2_lineStart_26 (by decide) ?_
  exact ok_X2_lineStart_27 hC hQ 0 h hV
set_option maxRecDepth 100000 in
set_option maxHeartbeats 4000000 in
theorem ok_X2_lineStart_0 {E : Ev} {X : Xt} {l0 : Launch} {K : Int32 → Hp → Prop} (hC : Cx E X l0 RX2 cX2_lineStart 2 rm_X2_lineStart) (hQ : CQ E X "lineStart" (some .int) rm_X2_lineStart (KI K)) (a0 : Nat) (a1 : Int32) (h : Hp) (hV : V_X2_lineStart a0 a1 h K) : WW E X h 0 0 0 [some (rv a0), some (.int a1)] [] := by
  unfold V_X2_lineStart at hV
  refine r_iload_n hC dX2_lineStart_0 rfl ?_
  refine r_if_le (tgt := 26) hC dX2_lineStart_1 (by decide) (fun k9 => ?_) (fun k9 => ?_)
  · replace hV := hV.1 k9
    refine r_sub (lo1 := [none, none]) ⟨Or.inl rfl, ⟨Or.inl rfl, trivial⟩⟩ ?_
    exact ok_X2_lineStart_26 hC hQ  h hV
  · replace hV := hV.2 k9
    refine r_iload_n hC dX2_lineStart_4 rfl ?_
    refine r_aload_n hC dX2_lineStart_5 rfl ?_
    obtain ⟨k9, hV⟩ := hV
    refine r_getR hC dX2_lineStart_6 fl_2_19 rf_2_2 lq_2 k9 ?_
    obtain ⟨k9, hV⟩ := hV
    refine r_alen (kd := 32) hC dX2_lineStart_9 (by decide) k9 ?_
    refine r_icmp_ge (tgt := 26) hC dX2_lineStart_10 (by decide) (fun k9 => ?_) (fun k9 => ?_)
    · replace hV := hV.1 k9
      refine r_sub (lo1 := [none, none]) ⟨Or.inl rfl, ⟨Or.inl rfl, trivial⟩⟩ ?_
      exact ok_X2_lineStart_26 hC hQ  h hV
    · replace hV := hV.2 k9
      refine r_aload_n hC dX2_lineStart_13 rfl ?_
      obtain ⟨k9, hV⟩ := hV
      refine r_getR hC dX2_lineStart_14 fl_2_19 rf_2_2 lq_2 k9 ?_
      refine r_iload_n hC dX2_lineStart_17 rfl ?_
      refine r_iconst (v := 1) hC dX2_lineStart_18 (by decide) ?_
      refine r_isub hC dX2_lineStart_19 ?_
      obtain ⟨k9, k8, hV⟩ := hV
      refine r_iald (kd := 32) hC dX2_lineStart_20 (by decide) rfl k9 k8 ?_
      refine r_iconst (v := 1) hC dX2_lineStart_21 (by decide) ?_
      refine r_iadd hC dX2_lineStart_22 ?_
      refine r_goto (tgt := 27) hC dX2_lineStart_23 (by decide) ?_
      refine r_sub (lo1 := [none, none]) ⟨Or.inl rfl, ⟨Or.inl rfl, trivial⟩⟩ ?_
      exact ok_X2_lineStart_27 hC hQ ((hI h (hR h a0 2) (ix (a1 - 1))) + 1) h hV
set_option maxRecDepth 100000 in
set_option maxHeartbeats 4000000 in
theorem con_X2_lineStart {E : Ev} {l0 : Launch} (a0 : Nat) (a1 : Int32) (h : Hp) (K : Int32 → Hp → Prop) (hV : V_X2_lineStart a0 a1 h K) : Con E l0 yX2_lineStart cX2_lineStart 2 (some .int) rm_X2_lineStart [rv a0, .int a1] h (KI K) := by
  refine Con.of (by decide +kernel) (cat_R (cat_I cat_nil)) (Nat.le_of_ble_eq_true rfl) (fun X hC hQ => ?_)
  refine r_sub (lo1 := [some (rv a0), some (.int a1)]) (show lsub [some (rv a0), some (.int a1)] _ from ⟨Or.inr rfl, ⟨Or.inr rfl, trivial⟩⟩) ?_
  exact ok_X2_lineStart_0 hC hQ a0 a1 h hV
theorem dX2_signAt_0 : decode cX2_signAt 0 = .ok (.iload_n 1, 1) := by decide +kernel
theorem dX2_signAt_1 : decode cX2_signAt 1 = .ok (.ifCond .lt 21, 3) := by decide +kernel
theorem dX2_signAt_4 : decode cX2_signAt 4 = .ok (.iload_n 1, 1) := by decide +kernel
theorem dX2_signAt_5 : decode cX2_signAt 5 = .ok (.aload_n 0, 1) := by decide +kernel
theorem dX2_signAt_6 : decode cX2_signAt 6 = .ok (.getfield 9, 3) := by decide +kernel
theorem dX2_signAt_9 : decode cX2_signAt 9 = .ok (.arraylength, 1) := by decide +kernel
theorem dX2_signAt_10 : decode cX2_signAt 10 = .ok (.if_icmp .ge 12, 3) := by decide +kernel
theorem dX2_signAt_13 : decode cX2_signAt 13 = .ok (.aload_n 0, 1) := by decide +kernel
theorem dX2_signAt_14 : decode cX2_signAt 14 = .ok (.getfield 9, 3) := by decide +kernel
theorem dX2_signAt_17 : decode cX2_signAt 17 = .ok (.iload_n 1, 1) := by decide +kernel
theorem dX2_signAt_18 : decode cX2_signAt 18 = .ok (.caload, 1) := by decide +kernel
theorem dX2_signAt_19 : decode cX2_signAt 19 = .ok (.goto 5, 3) := by decide +kernel
theorem dX2_signAt_22 : decode cX2_signAt 22 = .ok (.bipush 32, 2) := by decide +kernel
theorem dX2_signAt_24 : decode cX2_signAt 24 = .ok (.ireturn, 1) := by decide +kernel
def rm_X2_signAt : Room := { frames := 0, cells := 0, slots := 0, locals := 0 }
set_option maxRecDepth 100000 in
set_option maxHeartbeats 4000000 in
theorem ok_X2_signAt_24 {E : Ev} {X : Xt} {l0 : Launch} {K : Int32 → Hp → Prop} (hC : Cx E X l0 RX2 cX2_signAt 2 rm_X2_signAt) (hQ : CQ E X "signAt" (some .char) rm_X2_signAt (KI K)) (s0 : Int32) (h : Hp) (hV : V_X2_signAt_24 K s0 h) : WW E X h 0 0 24 [none, none] [.int s0] := by
  unfold V_X2_signAt_24 at hV
  exact r_cret hC hQ dX2_signAt_24 (Nat.le_of_ble_eq_true rfl) (Nat.le_of_ble_eq_true rfl) hV.1 ⟨_, rfl, hV.2⟩
set_option maxRecDepth 100000 in
set_option maxHeartbeats 4000000 in
theorem ok_X2_signAt_22 {E : Ev} {X : Xt} {l0 : Launch} {K : Int32 → Hp → Prop} (hC : Cx E X l0 RX2 cX2_signAt 2 rm_X2_signAt) (hQ : CQ E X "signAt" (some .char) rm_X2_signAt (KI K)) (h : Hp) (hV : V_X2_signAt_22 K  h) : WW E X h 0 0 22 [none, none] [] := by
  unfold V_X2_signAt_22 at hV
  refine r_bipush (v := 32) hC dX2_signAt_22 (by decide) ?_
  exact ok_X2_signAt_24 hC hQ 32 h hV
set_option maxRecDepth 100000 in
set_option maxHeartbeats 4000000 in
theorem ok_X2_signAt_0 {E : Ev} {X : Xt} {l0 : Launch} {K : Int32 → Hp → Prop} (hC : Cx E X l0 RX2 cX2_signAt 2 rm_X2_signAt) (hQ : CQ E X "signAt" (some .char) rm_X2_signAt (KI K)) (a0 : Nat) (a1 : Int32) (h : Hp) (hV : V_X2_signAt a0 a1 h K) : WW E X h 0 0 0 [some (rv a0), some (.int a1)] [] := by
  unfold V_X2_signAt at hV
  refine r_iload_n hC dX2_signAt_0 rfl ?_
  refine r_if_lt (tgt := 22) hC dX2_signAt_1 (by decide) (fun k9 => ?_) (fun k9 => ?_)
  · replace hV := hV.1 k9
    refine r_sub (lo1 := [none, none]) ⟨Or.inl rfl, ⟨Or.inl rfl, trivial⟩⟩ ?_
    exact ok_X2_signAt_22 hC hQ  h hV
  · replace hV := hV.2 k9
    refine r_iload_n hC dX2_signAt_4 rfl ?_
    refine r_aload_n hC dX2_signAt_5 rfl ?_
    obtain ⟨k9, hV⟩ := hV
    refine r_getR hC dX2_signAt_6 fl_2_9 rf_2_0 lq_2 k9 ?_
    obtain ⟨k9, hV⟩ := hV
    refine r_alen (kd := 25) hC dX2_signAt_9 (by decide) k9 ?_
    refine r_icmp_ge (tgt := 22) hC dX2_signAt_10 (by decide) (fun k9 => ?_) (fun k9 => ?_)
    · replace hV := hV.1 k9
      refine r_sub (lo1 := [none, none]) ⟨Or.inl rfl, ⟨Or.inl rfl, trivial⟩⟩ ?_
      exact ok_X2_signAt_22 hC hQ  h hV
    · replace hV := hV.2 k9
      refine r_aload_n hC dX2_signAt_13 rfl ?_
      obtain ⟨k9, hV⟩ := hV
      refine r_getR hC dX2_signAt_14 fl_2_9 rf_2_0 lq_2 k9 ?_
      refine r_iload_n hC dX2_signAt_17 rfl ?_
      obtain ⟨k9, k8, hV⟩ := hV
      refine r_cald (kd := 25) hC dX2_signAt_18 (by decide) rfl k9 k8 ?_
      refine r_goto (tgt := 24) hC dX2_signAt_19 (by decide) ?_
      refine r_sub (lo1 := [none, none]) ⟨Or.inl rfl, ⟨Or.inl rfl, trivial⟩⟩ ?_
      exact ok_X2_signAt_24 hC hQ (hI h (hR h a0 0) (ix a1)) h hV
set_option maxRecDepth 100000 in
set_option maxHeartbeats 4000000 in
theorem con_X2_signAt {E : Ev} {l0 : Launch} (a0 : Nat) (a1 : Int32) (h : Hp) (K : Int32 → Hp → Prop) (hV : V_X2_signAt a0 a1 h K) : Con E l0 yX2_signAt cX2_signAt 2 (some .char) rm_X2_signAt [rv a0, .int a1] h (KI K) := by
  refine Con.of (by decide +kernel) (cat_R (cat_I cat_nil)) (Nat.le_of_ble_eq_true rfl) (fun X hC hQ => ?_)
  refine r_sub (lo1 := [some (rv a0), some (.int a1)]) (show lsub [some (rv a0), some (.int a1)] _ from ⟨Or.inr rfl, ⟨Or.inr rfl, trivial⟩⟩) ?_
  exact ok_X2_signAt_0 hC hQ a0 a1 h hV
theorem dX3_init_0 : decode cX3_init 0 = .ok (.aload_n 0, 1) := by decide +kernel
theorem dX3_init_1 : decode cX3_init 1 = .ok (.invokespecial 1, 3) := by decide +kernel
theorem dX3_init_4 : decode cX3_init 4 = .ok (.aload_n 0, 1) := by decide +kernel
theorem dX3_init_5 : decode cX3_init 5 = .ok (.iload_n 1, 1) := by decide +kernel
theorem dX3_init_6 : decode cX3_init 6 = .ok (.putfield 7, 3) := by decide +kernel
theorem dX3_init_9 : decode cX3_init 9 = .ok (.aload_n 0, 1) := by decide +kernel
theorem dX3_init_10 : decode cX3_init 10 = .ok (.iload_n 2, 1) := by decide +kernel
theorem dX3_init_11 : decode cX3_init 11 = .ok (.putfield 13, 3) := by decide +kernel
theorem dX3_init_14 : decode cX3_init 14 = .ok (.aload_n 0, 1) := by decide +kernel
theorem dX3_init_15 : decode cX3_init 15 = .ok (.iload_n 3, 1) := by decide +kernel
theorem dX3_init_16 : decode cX3_init 16 = .ok (.putfield 16, 3) := by decide +kernel
theorem dX3_init_19 : decode cX3_init 19 = .ok (.aload_n 0, 1) := by decide +kernel
theorem dX3_init_20 : decode cX3_init 20 = .ok (.aload 4, 2) := by decide +kernel
theorem dX3_init_22 : decode cX3_init 22 = .ok (.putfield 19, 3) := by decide +kernel
theorem dX3_init_25 : decode cX3_init 25 = .ok (.return_, 1) := by decide +kernel
def rm_X3_init : Room := { frames := 1, cells := 0, slots := 0, locals := 26 }
set_option maxRecDepth 100000 in
set_option maxHeartbeats 4000000 in
theorem ok_X3_init_0 {E : Ev} {X : Xt} {l0 : Launch} {K : Hp → Prop} (hC : Cx E X l0 RX3 cX3_init 5 rm_X3_init) (hQ : CQ E X "<init>" none rm_X3_init (KV K)) (a0 : Nat) (a1 : Int32) (a2 : Int32) (a3 : Int32) (a4 : Nat) (h : Hp) (hV : V_X3_init a0 a1 a2 a3 a4 h K) : WW E X h 0 0 0 [some (rv a0), some (.int a1), some (.int a2), some (.int a3), some (rv a4)] [] := by
  unfold V_X3_init at hV
  refine r_aload_n hC dX3_init_0 rfl ?_
  obtain ⟨k9, hV⟩ := hV
  refine r_obj hC dX3_init_1 rfl ml_3_1 obj_i obj_c k9 cs0 ⟨Nat.le_of_ble_eq_true rfl, Nat.le_of_ble_eq_true rfl⟩ ?_
  refine r_aload_n hC dX3_init_4 rfl ?_
  refine r_iload_n hC dX3_init_5 rfl ?_
  obtain ⟨k9, hV⟩ := hV
  refine r_putFI hC hQ dX3_init_6 fl_3_7 ft_3 rfl rfl rf_3_0 ty_3_0 lq_3 k9 (nmH (fun h1 k9 => ?_))
  replace hV := hV h1 k9
  refine r_aload_n hC dX3_init_9 rfl ?_
  refine r_iload_n hC dX3_init_10 rfl ?_
  obtain ⟨k9, hV⟩ := hV
  refine r_putFI hC hQ dX3_init_11 fl_3_13 ft_3 rfl rfl rf_3_1 ty_3_1 lq_3 k9 (nmH (fun h2 k9 => ?_))
  replace hV := hV h2 k9
  refine r_aload_n hC dX3_init_14 rfl ?_
  refine r_iload_n hC dX3_init_15 rfl ?_
  obtain ⟨k9, hV⟩ := hV
  refine r_putFI hC hQ dX3_init_16 fl_3_16 ft_3 rfl rfl rf_3_2 ty_3_2 lq_3 k9 (nmH (fun h3 k9 => ?_))
  replace hV := hV h3 k9
  refine r_aload_n hC dX3_init_19 rfl ?_
  refine r_aload hC dX3_init_20 rfl ?_
  obtain ⟨k9, hV⟩ := hV
  refine r_putFR hC hQ dX3_init_22 fl_3_19 ft_3 rfl rfl rf_3_3 ty_3_3 lq_3 k9 (nmH (fun h4 k9 => ?_))
  replace hV := hV h4 k9
  exact r_vret hC hQ dX3_init_25 (Nat.le_of_ble_eq_true rfl) (Nat.le_of_ble_eq_true rfl) ⟨rfl, hV⟩
set_option maxRecDepth 100000 in
set_option maxHeartbeats 4000000 in
theorem con_X3_init {E : Ev} {l0 : Launch} (a0 : Nat) (a1 : Int32) (a2 : Int32) (a3 : Int32) (a4 : Nat) (h : Hp) (K : Hp → Prop) (hV : V_X3_init a0 a1 a2 a3 a4 h K) : Con E l0 yX3_init cX3_init 5 none rm_X3_init [rv a0, .int a1, .int a2, .int a3, rv a4] h (KV K) := by
  refine Con.of (by decide +kernel) (cat_R (cat_I (cat_I (cat_I (cat_R cat_nil))))) (Nat.le_of_ble_eq_true rfl) (fun X hC hQ => ?_)
  refine r_sub (lo1 := [some (rv a0), some (.int a1), some (.int a2), some (.int a3), some (rv a4)]) (show lsub [some (rv a0), some (.int a1), some (.int a2), some (.int a3), some (rv a4)] _ from ⟨Or.inr rfl, ⟨Or.inr rfl, ⟨Or.inr rfl, ⟨Or.inr rfl, ⟨Or.inr rfl, trivial⟩⟩⟩⟩⟩) ?_
  exact ok_X3_init_0 hC hQ a0 a1 a2 a3 a4 h hV
theorem dX4_begin_0 : decode cX4_begin 0 = .ok (.aload_n 0, 1) := by decide +kernel
theorem dX4_begin_1 : decode cX4_begin 1 = .ok (.iload_n 1, 1) := by decide +kernel
theorem dX4_begin_2 : decode cX4_begin 2 = .ok (.putfield 7, 3) := by decide +kernel
theorem dX4_begin_5 : decode cX4_begin 5 = .ok (.aload_n 0, 1) := by decide +kernel
theorem dX4_begin_6 : decode cX4_begin 6 = .ok (.iload_n 2, 1) := by decide +kernel
theorem dX4_begin_7 : decode cX4_begin 7 = .ok (.putfield 13, 3) := by decide +kernel
theorem dX4_begin_10 : decode cX4_begin 10 = .ok (.aload_n 0, 1) := by decide +kernel
theorem dX4_begin_11 : decode cX4_begin 11 = .ok (.iconst 0, 1) := by decide +kernel
theorem dX4_begin_12 : decode cX4_begin 12 = .ok (.putfield 25, 3) := by decide +kernel
theorem dX4_begin_15 : decode cX4_begin 15 = .ok (.aload_n 0, 1) := by decide +kernel
theorem dX4_begin_16 : decode cX4_begin 16 = .ok (.iconst 0, 1) := by decide +kernel
theorem dX4_begin_17 : decode cX4_begin 17 = .ok (.putfield 28, 3) := by decide +kernel
theorem dX4_begin_20 : decode cX4_begin 20 = .ok (.aload_n 0, 1) := by decide +kernel
theorem dX4_begin_21 : decode cX4_begin 21 = .ok (.iconst 0, 1) := by decide +kernel
theorem dX4_begin_22 : decode cX4_begin 22 = .ok (.putfield 31, 3) := by decide +kernel
theorem dX4_begin_25 : decode cX4_begin 25 = .ok (.return_, 1) := by decide +kernel
def rm_X4_begin : Room := { frames := 0, cells := 0, slots := 0, locals := 0 }
set_option maxRecDepth 100000 in
set_option maxHeartbeats 4000000 in
theorem ok_X4_begin_0 {E : Ev} {X : Xt} {l0 : Launch} {K : Hp → Prop} (hC : Cx E X l0 RX4 cX4_begin 3 rm_X4_begin) (hQ : CQ E X "begin" none rm_X4_begin (KV K)) (a0 : Nat) (a1 : Int32) (a2 : Int32) (h : Hp) (hV : V_X4_begin a0 a1 a2 h K) : WW E X h 0 0 0 [some (rv a0), some (.int a1), some (.int a2)] [] := by
  unfold V_X4_begin at hV
  refine r_aload_n hC dX4_begin_0 rfl ?_
  refine r_iload_n hC dX4_begin_1 rfl ?_
  obtain ⟨k9, hV⟩ := hV
  refine r_putI hC dX4_begin_2 fl_4_7 ft_4 rfl rf_4_0 ty_4_0 lq_4 k9 (nmH (fun h1 k9 => ?_))
  replace hV := hV h1 k9
  refine r_aload_n hC dX4_begin_5 rfl ?_
  refine r_iload_n hC dX4_begin_6 rfl ?_
  obtain ⟨k9, hV⟩ := hV
  refine r_putI hC dX4_begin_7 fl_4_13 ft_4 rfl rf_4_1 ty_4_1 lq_4 k9 (nmH (fun h2 k9 => ?_))
  replace hV := hV h2 k9
  refine r_aload_n hC dX4_begin_10 rfl ?_
  refine r_iconst (v := 0) hC dX4_begin_11 (by decide) ?_
  obtain ⟨k9, hV⟩ := hV
  refine r_putI hC dX4_begin_12 fl_4_25 ft_4 rfl rf_4_5 ty_4_5 lq_4 k9 (nmH (fun h3 k9 => ?_))
  replace hV := hV h3 k9
  refine r_aload_n hC dX4_begin_15 rfl ?_
  refine r_iconst (v := 0) hC dX4_begin_16 (by decide) ?_
  obtain ⟨k9, hV⟩ := hV
  refine r_putI hC dX4_begin_17 fl_4_28 ft_4 rfl rf_4_6 ty_4_6 lq_4 k9 (nmH (fun h4 k9 => ?_))
  replace hV := hV h4 k9
  refine r_aload_n hC dX4_begin_20 rfl ?_
  refine r_iconst (v := 0) hC dX4_begin_21 (by decide) ?_
  obtain ⟨k9, hV⟩ := hV
  refine r_putI hC dX4_begin_22 fl_4_31 ft_4 rfl rf_4_7 ty_4_7 lq_4 k9 (nmH (fun h5 k9 => ?_))
  replace hV := hV h5 k9
  exact r_vret hC hQ dX4_begin_25 (Nat.le_of_ble_eq_true rfl) (Nat.le_of_ble_eq_true rfl) ⟨rfl, hV⟩
set_option maxRecDepth 100000 in
set_option maxHeartbeats 4000000 in
theorem con_X4_begin {E : Ev} {l0 : Launch} (a0 : Nat) (a1 : Int32) (a2 : Int32) (h : Hp) (K : Hp → Prop) (hV : V_X4_begin a0 a1 a2 h K) : Con E l0 yX4_begin cX4_begin 3 none rm_X4_begin [rv a0, .int a1, .int a2] h (KV K) := by
  refine Con.of (by decide +kernel) (cat_R (cat_I (cat_I cat_nil))) (Nat.le_of_ble_eq_true rfl) (fun X hC hQ => ?_)
  refine r_sub (lo1 := [some (rv a0), some (.int a1), some (.int a2)]) (show lsub [some (rv a0), some (.int a1), some (.int a2)] _ from ⟨Or.inr rfl, ⟨Or.inr rfl, ⟨Or.inr rfl, trivial⟩⟩⟩) ?_
  exact ok_X4_begin_0 hC hQ a0 a1 a2 h hV
theorem dX4_digitAt_0 : decode cX4_digitAt 0 = .ok (.iload_n 1, 1) := by decide +kernel
theorem dX4_digitAt_1 : decode cX4_digitAt 1 = .ok (.aload_n 0, 1) := by decide +kernel
theorem dX4_digitAt_2 : decode cX4_digitAt 2 = .ok (.getfield 16, 3) := by decide +kernel
theorem dX4_digitAt_5 : decode cX4_digitAt 5 = .ok (.if_icmp .ge 6, 3) := by decide +kernel
theorem dX4_digitAt_8 : decode cX4_digitAt 8 = .ok (.bipush 52, 2) := by decide +kernel
theorem dX4_digitAt_10 : decode cX4_digitAt 10 = .ok (.ireturn, 1) := by decide +kernel
theorem dX4_digitAt_11 : decode cX4_digitAt 11 = .ok (.iload_n 1, 1) := by decide +kernel
theorem dX4_digitAt_12 : decode cX4_digitAt 12 = .ok (.aload_n 0, 1) := by decide +kernel
theorem dX4_digitAt_13 : decode cX4_digitAt 13 = .ok (.getfield 16, 3) := by decide +kernel
theorem dX4_digitAt_16 : decode cX4_digitAt 16 = .ok (.aload_n 0, 1) := by decide +kernel
theorem dX4_digitAt_17 : decode cX4_digitAt 17 = .ok (.getfield 19, 3) := by decide +kernel
theorem dX4_digitAt_20 : decode cX4_digitAt 20 = .ok (.iadd, 1) := by decide +kernel
theorem dX4_digitAt_21 : decode cX4_digitAt 21 = .ok (.if_icmp .ge 8, 3) := by decide +kernel
theorem dX4_digitAt_24 : decode cX4_digitAt 24 = .ok (.bipush 50, 2) := by decide +kernel
theorem dX4_digitAt_26 : decode cX4_digitAt 26 = .ok (.goto 5, 3) := by decide +kernel
theorem dX4_digitAt_29 : decode cX4_digitAt 29 = .ok (.bipush 49, 2) := by decide +kernel
theorem dX4_digitAt_31 : decode cX4_digitAt 31 = .ok (.ireturn, 1) := by decide +kernel
def rm_X4_digitAt : Room := { frames := 0, cells := 0, slots := 0, locals := 0 }
set_option maxRecDepth 100000 in
set_option maxHeartbeats 4000000 in
theorem ok_X4_digitAt_31 {E : Ev} {X : Xt} {l0 : Launch} {K : Int32 → Hp → Prop} (hC : Cx E X l0 RX4 cX4_digitAt 2 rm_X4_digitAt) (hQ : CQ E X "digitAt" (some .char) rm_X4_digitAt (KI K)) (s0 : Int32) (h : Hp) (hV : V_X4_digitAt_31 K s0 h) : WW E X h 0 0 31 [none, none] [.int s0] := by
  unfold V_X4_digitAt_31 at hV
  exact r_cret hC hQ dX4_digitAt_31 (Nat.le_of_ble_eq_true rfl) (Nat.le_of_ble_eq_true rfl) hV.1 ⟨_, rfl, hV.2⟩
set_option maxRecDepth 100000 in
set_option maxHeartbeats 4000000 in
theorem ok_X4_digitAt_0 {E : Ev} {X : Xt} {l0 : Launch} {K : Int32 → Hp → Prop} (hC : Cx E X l0 RX4 cX4_digitAt 2 rm_X4_digitAt) (hQ : CQ E X "digitAt" (some .char) rm_X4_digitAt (KI K)) (a0 : Nat) (a1 : Int32) (h : Hp) (hV : V_X4_digitAt a0 a1 h K) : WW E X h 0 0 0 [some (rv a0), some (.int a1)] [] := by
  unfold V_X4_digitAt at hV
  refine r_iload_n hC dX4_digitAt_0 rfl ?_
  refine r_aload_n hC dX4_digitAt_1 rfl ?_
  obtain ⟨k9, hV⟩ := hV
  refine r_getI hC dX4_digitAt_2 fl_4_16 rf_4_2 lq_4 k9 ?_
  refine r_icmp_ge (tgt := 11) hC dX4_digitAt_5 (by decide) (fun k9 => ?_) (fun k9 => ?_)
  · replace hV := hV.1 k9
    refine r_iload_n hC dX4_digitAt_11 rfl ?_
    refine r_aload_n hC dX4_digitAt_12 rfl ?_
    obtain ⟨k9, hV⟩ := hV
    refine r_getI hC dX4_digitAt_13 fl_4_16 rf_4_2 lq_4 k9 ?_
    refine r_aload_n hC dX4_digitAt_16 rfl ?_
    obtain ⟨k9, hV⟩ := hV
    refine r_getI hC dX4_digitAt_17 fl_4_19 rf_4_3 lq_4 k9 ?_
    refine r_iadd hC dX4_digitAt_20 ?_
    refine r_icmp_ge (tgt := 29) hC dX4_digitAt_21 (by decide) (fun k9 => ?_) (fun k9 => ?_)
    · replace hV := hV.1 k9
      refine r_bipush (v := 49) hC dX4_digitAt_29 (by decide) ?_
      refine r_sub (lo1 := [none, none]) ⟨Or.inl rfl, ⟨Or.inl rfl, trivial⟩⟩ ?_
      exact ok_X4_digitAt_31 hC hQ 49 h hV
    · replace hV := hV.2 k9
      refine r_bipush (v := 50) hC dX4_digitAt_24 (by decide) ?_
      refine r_goto (tgt := 31) hC dX4_digitAt_26 (by decide) ?_
      refine r_sub (lo1 := [none, none]) ⟨Or.inl rfl, ⟨Or.inl rfl, trivial⟩⟩ ?_
      exact ok_X4_digitAt_31 hC hQ 50 h hV
  · replace hV := hV.2 k9
    refine r_bipush (v := 52) hC dX4_digitAt_8 (by decide) ?_
    exact r_cret hC hQ dX4_digitAt_10 (Nat.le_of_ble_eq_true rfl) (Nat.le_of_ble_eq_true rfl) hV.1 ⟨_, rfl, hV.2⟩
set_option maxRecDepth 100000 in
set_option maxHeartbeats 4000000 in
theorem con_X4_digitAt {E : Ev} {l0 : Launch} (a0 : Nat) (a1 : Int32) (h : Hp) (K : Int32 → Hp → Prop) (hV : V_X4_digitAt a0 a1 h K) : Con E l0 yX4_digitAt cX4_digitAt 2 (some .char) rm_X4_digitAt [rv a0, .int a1] h (KI K) := by
  refine Con.of (by decide +kernel) (cat_R (cat_I cat_nil)) (Nat.le_of_ble_eq_true rfl) (fun X hC hQ => ?_)
  refine r_sub (lo1 := [some (rv a0), some (.int a1)]) (show lsub [some (rv a0), some (.int a1)] _ from ⟨Or.inr rfl, ⟨Or.inr rfl, trivial⟩⟩) ?_
  exact ok_X4_digitAt_0 hC hQ a0 a1 h hV
theorem dX4_fill_0 : decode cX4_fill 0 = .ok (.aload_n 0, 1) := by decide +kernel
theorem dX4_fill_1 : decode cX4_fill 1 = .ok (.iload_n 1, 1) := by decide +kernel
theorem dX4_fill_2 : decode cX4_fill 2 = .ok (.iconst 4, 1) := by decide +kernel
theorem dX4_fill_3 : decode cX4_fill 3 = .ok (.idiv, 1) := by decide +kernel
theorem dX4_fill_4 : decode cX4_fill 4 = .ok (.aload_n 0, 1) := by decide +kernel
theorem dX4_fill_5 : decode cX4_fill 5 = .ok (.getfield 7, 3) := by decide +kernel
theorem dX4_fill_8 : decode cX4_fill 8 = .ok (.invokestatic 34, 3) := by decide +kernel
theorem dX4_fill_11 : decode cX4_fill 11 = .ok (.putfield 16, 3) := by decide +kernel
theorem dX4_fill_14 : decode cX4_fill 14 = .ok (.iload_n 1, 1) := by decide +kernel
theorem dX4_fill_15 : decode cX4_fill 15 = .ok (.iconst 4, 1) := by decide +kernel
theorem dX4_fill_16 : decode cX4_fill 16 = .ok (.aload_n 0, 1) := by decide +kernel
theorem dX4_fill_17 : decode cX4_fill 17 = .ok (.getfield 16, 3) := by decide +kernel
theorem dX4_fill_20 : decode cX4_fill 20 = .ok (.imul, 1) := by decide +kernel
theorem dX4_fill_21 : decode cX4_fill 21 = .ok (.isub, 1) := by decide +kernel
theorem dX4_fill_22 : decode cX4_fill 22 = .ok (.istore_n 2, 1) := by decide +kernel
theorem dX4_fill_23 : decode cX4_fill 23 = .ok (.aload_n 0, 1) := by decide +kernel
theorem dX4_fill_24 : decode cX4_fill 24 = .ok (.iload_n 2, 1) := by decide +kernel
theorem dX4_fill_25 : decode cX4_fill 25 = .ok (.iconst 2, 1) := by decide +kernel
theorem dX4_fill_26 : decode cX4_fill 26 = .ok (.idiv, 1) := by decide +kernel
theorem dX4_fill_27 : decode cX4_fill 27 = .ok (.aload_n 0, 1) := by decide +kernel
theorem dX4_fill_28 : decode cX4_fill 28 = .ok (.getfield 13, 3) := by decide +kernel
theorem dX4_fill_31 : decode cX4_fill 31 = .ok (.invokestatic 34, 3) := by decide +kernel
theorem dX4_fill_34 : decode cX4_fill 34 = .ok (.putfield 19, 3) := by decide +kernel
theorem dX4_fill_37 : decode cX4_fill 37 = .ok (.aload_n 0, 1) := by decide +kernel
theorem dX4_fill_38 : decode cX4_fill 38 = .ok (.iload_n 2, 1) := by decide +kernel
theorem dX4_fill_39 : decode cX4_fill 39 = .ok (.iconst 2, 1) := by decide +kernel
theorem dX4_fill_40 : decode cX4_fill 40 = .ok (.aload_n 0, 1) := by decide +kernel
theorem dX4_fill_41 : decode cX4_fill 41 = .ok (.getfield 19, 3) := by decide +kernel
theorem dX4_fill_44 : decode cX4_fill 44 = .ok (.imul, 1) := by decide +kernel
theorem dX4_fill_45 : decode cX4_fill 45 = .ok (.isub, 1) := by decide +kernel
theorem dX4_fill_46 : decode cX4_fill 46 = .ok (.putfield 22, 3) := by decide +kernel
theorem dX4_fill_49 : decode cX4_fill 49 = .ok (.aload_n 0, 1) := by decide +kernel
theorem dX4_fill_50 : decode cX4_fill 50 = .ok (.dup, 1) := by decide +kernel
theorem dX4_fill_51 : decode cX4_fill 51 = .ok (.getfield 7, 3) := by decide +kernel
theorem dX4_fill_54 : decode cX4_fill 54 = .ok (.aload_n 0, 1) := by decide +kernel
theorem dX4_fill_55 : decode cX4_fill 55 = .ok (.getfield 16, 3) := by decide +kernel
theorem dX4_fill_58 : decode cX4_fill 58 = .ok (.isub, 1) := by decide +kernel
theorem dX4_fill_59 : decode cX4_fill 59 = .ok (.putfield 7, 3) := by decide +kernel
theorem dX4_fill_62 : decode cX4_fill 62 = .ok (.aload_n 0, 1) := by decide +kernel
theorem dX4_fill_63 : decode cX4_fill 63 = .ok (.dup, 1) := by decide +kernel
theorem dX4_fill_64 : decode cX4_fill 64 = .ok (.getfield 13, 3) := by decide +kernel
theorem dX4_fill_67 : decode cX4_fill 67 = .ok (.aload_n 0, 1) := by decide +kernel
theorem dX4_fill_68 : decode cX4_fill 68 = .ok (.getfield 19, 3) := by decide +kernel
theorem dX4_fill_71 : decode cX4_fill 71 = .ok (.isub, 1) := by decide +kernel
theorem dX4_fill_72 : decode cX4_fill 72 = .ok (.putfield 13, 3) := by decide +kernel
theorem dX4_fill_75 : decode cX4_fill 75 = .ok (.aload_n 0, 1) := by decide +kernel
theorem dX4_fill_76 : decode cX4_fill 76 = .ok (.dup, 1) := by decide +kernel
theorem dX4_fill_77 : decode cX4_fill 77 = .ok (.getfield 25, 3) := by decide +kernel
theorem dX4_fill_80 : decode cX4_fill 80 = .ok (.aload_n 0, 1) := by decide +kernel
theorem dX4_fill_81 : decode cX4_fill 81 = .ok (.getfield 16, 3) := by decide +kernel
theorem dX4_fill_84 : decode cX4_fill 84 = .ok (.iadd, 1) := by decide +kernel
theorem dX4_fill_85 : decode cX4_fill 85 = .ok (.putfield 25, 3) := by decide +kernel
theorem dX4_fill_88 : decode cX4_fill 88 = .ok (.aload_n 0, 1) := by decide +kernel
theorem dX4_fill_89 : decode cX4_fill 89 = .ok (.dup, 1) := by decide +kernel
theorem dX4_fill_90 : decode cX4_fill 90 = .ok (.getfield 28, 3) := by decide +kernel
theorem dX4_fill_93 : decode cX4_fill 93 = .ok (.aload_n 0, 1) := by decide +kernel
theorem dX4_fill_94 : decode cX4_fill 94 = .ok (.getfield 19, 3) := by decide +kernel
theorem dX4_fill_97 : decode cX4_fill 97 = .ok (.iadd, 1) := by decide +kernel
theorem dX4_fill_98 : decode cX4_fill 98 = .ok (.putfield 28, 3) := by decide +kernel
theorem dX4_fill_101 : decode cX4_fill 101 = .ok (.aload_n 0, 1) := by decide +kernel
theorem dX4_fill_102 : decode cX4_fill 102 = .ok (.dup, 1) := by decide +kernel
theorem dX4_fill_103 : decode cX4_fill 103 = .ok (.getfield 31, 3) := by decide +kernel
theorem dX4_fill_106 : decode cX4_fill 106 = .ok (.aload_n 0, 1) := by decide +kernel
theorem dX4_fill_107 : decode cX4_fill 107 = .ok (.getfield 22, 3) := by decide +kernel
theorem dX4_fill_110 : decode cX4_fill 110 = .ok (.iadd, 1) := by decide +kernel
theorem dX4_fill_111 : decode cX4_fill 111 = .ok (.putfield 31, 3) := by decide +kernel
theorem dX4_fill_114 : decode cX4_fill 114 = .ok (.return_, 1) := by decide +kernel
def rm_X4_fill : Room := { frames := 1, cells := 0, slots := 0, locals := 26 }
set_option maxRecDepth 100000 in
set_option maxHeartbeats 4000000 in
theorem ok_X4_fill_0 {E : Ev} {X : Xt} {l0 : Launch} {K : Hp → Prop} (hC : Cx E X l0 RX4 cX4_fill 3 rm_X4_fill) (hQ : CQ E X "fill" none rm_X4_fill (KV K)) (a0 : Nat) (a1 : Int32) (h : Hp) (hV : V_X4_fill a0 a1 h K) : WW E X h 0 0 0 [some (rv a0), some (.int a1), none] [] := by
  unfold V_X4_fill at hV
  refine r_aload_n hC dX4_fill_0 rfl ?_
  refine r_iload_n hC dX4_fill_1 rfl ?_
  refine r_iconst (v := 4) hC dX4_fill_2 (by decide) ?_
  refine r_idiv hC dX4_fill_3 (by decide) ?_
  refine r_aload_n hC dX4_fill_4 rfl ?_
  obtain ⟨k9, hV⟩ := hV
  refine r_getI hC dX4_fill_5 fl_4_7 rf_4_0 lq_4 k9 ?_
  refine r_min hC dX4_fill_8 rfl ml_4_34 mmin_s mth_i mmin_c (csR cs0) ⟨Nat.le_of_ble_eq_true rfl, Nat.le_of_ble_eq_true rfl, Nat.le_of_ble_eq_true rfl, Nat.le_of_ble_eq_true rfl⟩ ?_
  obtain ⟨k9, hV⟩ := hV
  refine r_putI hC dX4_fill_11 fl_4_16 ft_4 rfl rf_4_2 ty_4_2 lq_4 k9 (nmH (fun h1 k9 => ?_))
  replace hV := hV h1 k9
  refine r_iload_n hC dX4_fill_14 rfl ?_
  refine r_iconst (v := 4) hC dX4_fill_15 (by decide) ?_
  refine r_aload_n hC dX4_fill_16 rfl ?_
  obtain ⟨k9, hV⟩ := hV
  refine r_getI hC dX4_fill_17 fl_4_16 rf_4_2 lq_4 k9 ?_
  refine r_imul hC dX4_fill_20 ?_
  refine r_isub hC dX4_fill_21 ?_
  refine r_istore_n (ii := 2) (lo1 := [some (rv a0), some (.int a1), some (.int (a1 - (4 * (hI h1 a0 2))))]) hC dX4_fill_22 rfl (Nat.le_of_ble_eq_true rfl) (pvI rfl) rfl ?_
  refine r_aload_n hC dX4_fill_23 rfl ?_
  refine r_iload_n hC dX4_fill_24 rfl ?_
  refine r_iconst (v := 2) hC dX4_fill_25 (by decide) ?_
  refine r_idiv hC dX4_fill_26 (by decide) ?_
  refine r_aload_n hC dX4_fill_27 rfl ?_
  obtain ⟨k9, hV⟩ := hV
  refine r_getI hC dX4_fill_28 fl_4_13 rf_4_1 lq_4 k9 ?_
  refine r_min hC dX4_fill_31 rfl ml_4_34 mmin_s mth_i mmin_c (csR cs0) ⟨Nat.le_of_ble_eq_true rfl, Nat.le_of_ble_eq_true rfl, Nat.le_of_ble_eq_true rfl, Nat.le_of_ble_eq_true rfl⟩ ?_
  obtain ⟨k9, hV⟩ := hV
  refine r_putI hC dX4_fill_34 fl_4_19 ft_4 rfl rf_4_3 ty_4_3 lq_4 k9 (nmH (fun h2 k9 => ?_))
  replace hV := hV h2 k9
  refine r_aload_n hC dX4_fill_37 rfl ?_
  refine r_iload_n hC dX4_fill_38 rfl ?_
  refine r_iconst (v := 2) hC dX4_fill_39 (by decide) ?_
  refine r_aload_n hC dX4_fill_40 rfl ?_
  obtain ⟨k9, hV⟩ := hV
  refine r_getI hC dX4_fill_41 fl_4_19 rf_4_3 lq_4 k9 ?_
  refine r_imul hC dX4_fill_44 ?_
  refine r_isub hC dX4_fill_45 ?_
  obtain ⟨k9, hV⟩ := hV
  refine r_putI hC dX4_fill_46 fl_4_22 ft_4 rfl rf_4_4 ty_4_4 lq_4 k9 (nmH (fun h3 k9 => ?_))
  replace hV := hV h3 k9
  refine r_aload_n hC dX4_fill_49 rfl ?_
  refine r_dup hC dX4_fill_50 (rv_cat _) ?_
  obtain ⟨k9, hV⟩ := hV
  refine r_getI hC dX4_fill_51 fl_4_7 rf_4_0 lq_4 k9 ?_
  refine r_aload_n hC dX4_fill_54 rfl ?_
  obtain ⟨k9, hV⟩ := hV
  refine r_getI hC dX4_fill_55 fl_4_16 rf_4_2 lq_4 k9 ?_
  refine r_isub hC dX4_fill_58 ?_
  obtain ⟨k9, hV⟩ := hV
  refine r_putI hC dX4_fill_59 fl_4_7 ft_4 rfl rf_4_0 ty_4_0 lq_4 k9 (nmH (fun h4 k9 => ?_))
  replace hV := hV h4 k9
  refine r_aload_n hC dX4_fill_62 rfl ?_
  refine r_dup hC dX4_fill_63 (rv_cat _) ?_
  obtain ⟨k9, hV⟩ := hV
  refine r_getI hC dX4_fill_64 fl_4_13 rf_4_1 lq_4 k9 ?_
  refine r_aload_n hC dX4_fill_67 rfl ?_
  obtain ⟨k9, hV⟩ := hV
  refine r_getI hC dX4_fill_68 fl_4_19 rf_4_3 lq_4 k9 ?_
  refine r_isub hC dX4_fill_71 ?_
  obtain ⟨k9, hV⟩ := hV
  refine r_putI hC dX4_fill_72 fl_4_13 ft_4 rfl rf_4_1 ty_4_1 lq_4 k9 (nmH (fun h5 k9 => ?_))
  replace hV := hV h5 k9
  refine r_aload_n hC dX4_fill_75 rfl ?_
  refine r_dup hC dX4_fill_76 (rv_cat _) ?_
  obtain ⟨k9, hV⟩ := hV
  refine r_getI hC dX4_fill_77 fl_4_25 rf_4_5 lq_4 k9 ?_
  refine r_aload_n hC dX4_fill_80 rfl ?_
  obtain ⟨k9, hV⟩ := hV
  refine r_getI hC dX4_fill_81 fl_4_16 rf_4_2 lq_4 k9 ?_
  refine r_iadd hC dX4_fill_84 ?_
  obtain ⟨k9, hV⟩ := hV
  refine r_putI hC dX4_fill_85 fl_4_25 ft_4 rfl rf_4_5 ty_4_5 lq_4 k9 (nmH (fun h6 k9 => ?_))
  replace hV := hV h6 k9
  refine r_aload_n hC dX4_fill_88 rfl ?_
  refine r_dup hC dX4_fill_89 (rv_cat _) ?_
  obtain ⟨k9, hV⟩ := hV
  refine r_getI hC dX4_fill_90 fl_4_28 rf_4_6 lq_4 k9 ?_
  refine r_aload_n hC dX4_fill_93 rfl ?_
  obtain ⟨k9, hV⟩ := hV
  refine r_getI hC dX4_fill_94 fl_4_19 rf_4_3 lq_4 k9 ?_
  refine r_iadd hC dX4_fill_97 ?_
  obtain ⟨k9, hV⟩ := hV
  refine r_putI hC dX4_fill_98 fl_4_28 ft_4 rfl rf_4_6 ty_4_6 lq_4 k9 (nmH (fun h7 k9 => ?_))
  replace hV := hV h7 k9
  refine r_aload_n hC dX4_fill_101 rfl ?_
  refine r_dup hC dX4_fill_102 (rv_cat _) ?_
  obtain ⟨k9, hV⟩ := hV
  refine r_getI hC dX4_fill_103 fl_4_31 rf_4_7 lq_4 k9 ?_
  refine r_aload_n hC dX4_fill_106 rfl ?_
  obtain ⟨k9, hV⟩ := hV
  refine r_getI hC dX4_fill_107 fl_4_22 rf_4_4 lq_4 k9 ?_
  refine r_iadd hC dX4_fill_110 ?_
  obtain ⟨k9, hV⟩ := hV
  refine r_putI hC dX4_fill_111 fl_4_31 ft_4 rfl rf_4_7 ty_4_7 lq_4 k9 (nmH (fun h8 k9 => ?_))
  replace hV := hV h8 k9
  exact r_vret hC hQ dX4_fill_114 (Nat.le_of_ble_eq_true rfl) (Nat.le_of_ble_eq_true rfl) ⟨rfl, hV⟩
set_option maxRecDepth 100000 in
set_option maxHeartbeats 4000000 in
theorem con_X4_fill {E : Ev} {l0 : Launch} (a0 : Nat) (a1 : Int32) (h : Hp) (K : Hp → Prop) (hV : V_X4_fill a0 a1 h K) : Con E l0 yX4_fill cX4_fill 3 none rm_X4_fill [rv a0, .int a1] h (KV K) := by
  refine Con.of (by decide +kernel) (cat_R (cat_I cat_nil)) (Nat.le_of_ble_eq_true rfl) (fun X hC hQ => ?_)
  refine r_sub (lo1 := [some (rv a0), some (.int a1), none]) (show lsub [some (rv a0), some (.int a1), none] _ from ⟨Or.inr rfl, ⟨Or.inr rfl, ⟨Or.inr rfl, trivial⟩⟩⟩) ?_
  exact ok_X4_fill_0 hC hQ a0 a1 h hV
theorem dX4_init_0 : decode cX4_init 0 = .ok (.aload_n 0, 1) := by decide +kernel
theorem dX4_init_1 : decode cX4_init 1 = .ok (.invokespecial 1, 3) := by decide +kernel
theorem dX4_init_4 : decode cX4_init 4 = .ok (.aload_n 0, 1) := by decide +kernel
theorem dX4_init_5 : decode cX4_init 5 = .ok (.iconst 0, 1) := by decide +kernel
theorem dX4_init_6 : decode cX4_init 6 = .ok (.putfield 7, 3) := by decide +kernel
theorem dX4_init_9 : decode cX4_init 9 = .ok (.aload_n 0, 1) := by decide +kernel
theorem dX4_init_10 : decode cX4_init 10 = .ok (.iconst 0, 1) := by decide +kernel
theorem dX4_init_11 : decode cX4_init 11 = .ok (.putfield 13, 3) := by decide +kernel
theorem dX4_init_14 : decode cX4_init 14 = .ok (.aload_n 0, 1) := by decide +kernel
theorem dX4_init_15 : decode cX4_init 15 = .ok (.iconst 0, 1) := by decide +kernel
theorem dX4_init_16 : decode cX4_init 16 = .ok (.putfield 16, 3) := by decide +kernel
theorem dX4_init_19 : decode cX4_init 19 = .ok (.aload_n 0, 1) := by decide +kernel
theorem dX4_init_20 : decode cX4_init 20 = .ok (.iconst 0, 1) := by decide +kernel
theorem dX4_init_21 : decode cX4_init 21 = .ok (.putfield 19, 3) := by decide +kernel
theorem dX4_init_24 : decode cX4_init 24 = .ok (.aload_n 0, 1) := by decide +kernel
theorem dX4_init_25 : decode cX4_init 25 = .ok (.iconst 0, 1) := by decide +kernel
theorem dX4_init_26 : decode cX4_init 26 = .ok (.putfield 22, 3) := by decide +kernel
theorem dX4_init_29 : decode cX4_init 29 = .ok (.aload_n 0, 1) := by decide +kernel
theorem dX4_init_30 : decode cX4_init 30 = .ok (.iconst 0, 1) := by decide +kernel
theorem dX4_init_31 : decode cX4_init 31 = .ok (.putfield 25, 3) := by decide +kernel
theorem dX4_init_34 : decode cX4_init 34 = .ok (.aload_n 0, 1) := by decide +kernel
theorem dX4_init_35 : decode cX4_init 35 = .ok (.iconst 0, 1) := by decide +kernel
theorem dX4_init_36 : decode cX4_init 36 = .ok (.putfield 28, 3) := by decide +kernel
theorem dX4_init_39 : decode cX4_init 39 = .ok (.aload_n 0, 1) := by decide +kernel
theorem dX4_init_40 : decode cX4_init 40 = .ok (.iconst 0, 1) := by decide +kernel
theorem dX4_init_41 : decode cX4_init 41 = .ok (.putfield 31, 3) := by decide +kernel
theorem dX4_init_44 : decode cX4_init 44 = .ok (.return_, 1) := by decide +kernel
def rm_X4_init : Room := { frames := 1, cells := 0, slots := 0, locals := 26 }
set_option maxRecDepth 100000 in
set_option maxHeartbeats 4000000 in
theorem ok_X4_init_0 {E : Ev} {X : Xt} {l0 : Launch} {K : Hp → Prop} (hC : Cx E X l0 RX4 cX4_init 1 rm_X4_init) (hQ : CQ E X "<init>" none rm_X4_init (KV K)) (a0 : Nat) (h : Hp) (hV : V_X4_init a0 h K) : WW E X h 0 0 0 [some (rv a0)] [] := by
  unfold V_X4_init at hV
  refine r_aload_n hC dX4_init_0 rfl ?_
  obtain ⟨k9, hV⟩ := hV
  refine r_obj hC dX4_init_1 rfl ml_4_1 obj_i obj_c k9 cs0 ⟨Nat.le_of_ble_eq_true rfl, Nat.le_of_ble_eq_true rfl⟩ ?_
  refine r_aload_n hC dX4_init_4 rfl ?_
  refine r_iconst (v := 0) hC dX4_init_5 (by decide) ?_
  obtain ⟨k9, hV⟩ := hV
  refine r_putI hC dX4_init_6 fl_4_7 ft_4 rfl rf_4_0 ty_4_0 lq_4 k9 (nmH (fun h1 k9 => ?_))
  replace hV := hV h1 k9
  refine r_aload_n hC dX4_init_9 rfl ?_
  refine r_iconst (v := 0) hC dX4_init_10 (by decide) ?_
  obtain ⟨k9, hV⟩ := hV
  refine r_putI hC dX4_init_11 fl_4_13 ft_4 rfl rf_4_1 ty_4_1 lq_4 k9 (nmH (fun h2 k9 => ?_))
  replace hV := hV h2 k9
  refine r_aload_n hC dX4_init_14 rfl ?_
  refine r_iconst (v := 0) hC dX4_init_15 (by decide) ?_
  obtain ⟨k9, hV⟩ := hV
  refine r_putI hC dX4_init_16 fl_4_16 ft_4 rfl rf_4_2 ty_4_2 lq_4 k9 (nmH (fun h3 k9 => ?_))
  replace hV := hV h3 k9
  refine r_aload_n hC dX4_init_19 rfl ?_
  refine r_iconst (v := 0) hC dX4_init_20 (by decide) ?_
  obtain ⟨k9, hV⟩ := hV
  refine r_putI hC dX4_init_21 fl_4_19 ft_4 rfl rf_4_3 ty_4_3 lq_4 k9 (nmH (fun h4 k9 => ?_))
  replace hV := hV h4 k9
  refine r_aload_n hC dX4_init_24 rfl ?_
  refine r_iconst (v := 0) hC dX4_init_25 (by decide) ?_
  obtain ⟨k9, hV⟩ := hV
  refine r_putI hC dX4_init_26 fl_4_22 ft_4 rfl rf_4_4 ty_4_4 lq_4 k9 (nmH (fun h5 k9 => ?_))
  replace hV := hV h5 k9
  refine r_aload_n hC dX4_init_29 rfl ?_
  refine r_iconst (v := 0) hC dX4_init_30 (by decide) ?_
  obtain ⟨k9, hV⟩ := hV
  refine r_putI hC dX4_init_31 fl_4_25 ft_4 rfl rf_4_5 ty_4_5 lq_4 k9 (nmH (fun h6 k9 => ?_))
  replace hV := hV h6 k9
  refine r_aload_n hC dX4_init_34 rfl ?_
  refine r_iconst (v := 0) hC dX4_init_35 (by decide) ?_
  obtain ⟨k9, hV⟩ := hV
  refine r_putI hC dX4_init_36 fl_4_28 ft_4 rfl rf_4_6 ty_4_6 lq_4 k9 (nmH (fun h7 k9 => ?_))
  replace hV := hV h7 k9
  refine r_aload_n hC dX4_init_39 rfl ?_
  refine r_iconst (v := 0) hC dX4_init_40 (by decide) ?_
  obtain ⟨k9, hV⟩ := hV
  refine r_putI hC dX4_init_41 fl_4_31 ft_4 rfl rf_4_7 ty_4_7 lq_4 k9 (nmH (fun h8 k9 => ?_))
  replace hV := hV h8 k9
  exact r_vret hC hQ dX4_init_44 (Nat.le_of_ble_eq_true rfl) (Nat.le_of_ble_eq_true rfl) ⟨rfl, hV⟩
set_option maxRecDepth 100000 in
set_option maxHeartbeats 4000000 in
theorem con_X4_init {E : Ev} {l0 : Launch} (a0 : Nat) (h : Hp) (K : Hp → Prop) (hV : V_X4_init a0 h K) : Con E l0 yX4_init cX4_init 1 none rm_X4_init [rv a0] h (KV K) := by
  refine Con.of (by decide +kernel) (cat_R cat_nil) (Nat.le_of_ble_eq_true rfl) (fun X hC hQ => ?_)
  refine r_sub (lo1 := [some (rv a0)]) (show lsub [some (rv a0)] _ from ⟨Or.inr rfl, trivial⟩) ?_
  exact ok_X4_init_0 hC hQ a0 h hV
