theorem dX6_missing_0 : decode cX6_missing 0 = .ok (.aload_n 0, 1) := by decide +kernel
theorem dX6_missing_1 : decode cX6_missing 1 = .ok (.getfield 19, 3) := by decide +kernel
theorem dX6_missing_4 : decode cX6_missing 4 = .ok (.iload_n 1, 1) := by decide +kernel
theorem dX6_missing_5 : decode cX6_missing 5 = .ok (.invokevirtual 138, 3) := by decide +kernel
theorem dX6_missing_8 : decode cX6_missing 8 = .ok (.astore_n 3, 1) := by decide +kernel
theorem dX6_missing_9 : decode cX6_missing 9 = .ok (.aload_n 3, 1) := by decide +kernel
theorem dX6_missing_10 : decode cX6_missing 10 = .ok (.ifnull 10, 3) := by decide +kernel
theorem dX6_missing_13 : decode cX6_missing 13 = .ok (.iload_n 2, 1) := by decide +kernel
theorem dX6_missing_14 : decode cX6_missing 14 = .ok (.invokestatic 68, 3) := by decide +kernel
theorem dX6_missing_17 : decode cX6_missing 17 = .ok (.ifCond .ne 5, 3) := by decide +kernel
theorem dX6_missing_20 : decode cX6_missing 20 = .ok (.iconst (-1), 1) := by decide +kernel
theorem dX6_missing_21 : decode cX6_missing 21 = .ok (.ireturn, 1) := by decide +kernel
theorem dX6_missing_22 : decode cX6_missing 22 = .ok (.aload_n 0, 1) := by decide +kernel
theorem dX6_missing_23 : decode cX6_missing 23 = .ok (.aload_n 3, 1) := by decide +kernel
theorem dX6_missing_24 : decode cX6_missing 24 = .ok (.invokevirtual 145, 3) := by decide +kernel
theorem dX6_missing_27 : decode cX6_missing 27 = .ok (.aload_n 0, 1) := by decide +kernel
theorem dX6_missing_28 : decode cX6_missing 28 = .ok (.iload_n 2, 1) := by decide +kernel
theorem dX6_missing_29 : decode cX6_missing 29 = .ok (.invokevirtual 149, 3) := by decide +kernel
theorem dX6_missing_32 : decode cX6_missing 32 = .ok (.ireturn, 1) := by decide +kernel
def rm_X6_missing : Room := { frames := 4, cells := 0, slots := 0, locals := 90 }
set_option maxRecDepth 100000 in
set_option maxHeartbeats 4000000 in
theorem ok_X6_missing_20 {E : Ev} {X : Xt} {l0 : Launch} {K : Int32 → Hp → Prop} (hC : Cx E X l0 RX6 cX6_missing 4 rm_X6_missing) (hQ : CQ E X "missing" (some .int) rm_X6_missing (KI K)) (h : Hp) (hV : V_X6_missing_20 K  h) : WW E X h 0 0 20 [none, none, none, none] [] := by
  unfold V_X6_missing_20 at hV
  refine r_iconst (v := (-1)) hC dX6_missing_20 (by decide) ?_
  exact r_iret hC hQ dX6_missing_21 (Nat.le_of_ble_eq_true rfl) (Nat.le_of_ble_eq_true rfl) ⟨_, rfl, hV⟩
set_option maxRecDepth 100000 in
set_option maxHeartbeats 4000000 in
theorem ok_X6_missing_0 {E : Ev} {X : Xt} {l0 : Launch} {K : Int32 → Hp → Prop} (hC : Cx E X l0 RX6 cX6_missing 4 rm_X6_missing) (hQ : CQ E X "missing" (some .int) rm_X6_missing (KI K)) (a0 : Nat) (a1 : Int32) (a2 : Int32) (h : Hp) (hV : V_X6_missing a0 a1 a2 h K) : WW E X h 0 0 0 [some (rv a0), some (.int a1), some (.int a2), none] [] := by
  unfold V_X6_missing at hV
  refine r_aload_n hC dX6_missing_0 rfl ?_
  obtain ⟨k9, hV⟩ := hV
  refine r_getR hC dX6_missing_1 fl_6_19 rf_6_1 lq_6 k9 ?_
  refine r_iload_n hC dX6_missing_4 rfl ?_
  obtain ⟨k9, hV⟩ := hV
  refine r_callV (ci := 5) (As := [.int a1]) hC dX6_missing_5 rfl cf_X5_findJob ml_6_138 im_X5_findJob sl_X5_findJob lq_5 rfl rfl k9 rfl ⟨(Nat.le_of_ble_eq_true rfl), (Nat.le_of_ble_eq_true rfl), (Nat.le_of_ble_eq_true rfl), (Nat.le_of_ble_eq_true rfl)⟩ cs0 (Nat.le_of_ble_eq_true rfl) (con_X5_findJob (hR h a0 1) a1 h _ hV) rfl (kR (k := 0) (n := 0) (fun r1 h1 hV => ?_))
  refine r_astore_n (ii := 3) (lo1 := [some (rv a0), some (.int a1), some (.int a2), some (rv r1)]) hC dX6_missing_8 rfl (Nat.le_of_ble_eq_true rfl) (pvI rfl) rfl ?_
  refine r_aload_n hC dX6_missing_9 rfl ?_
  refine r_ifnull (tgt := 20) hC dX6_missing_10 (by decide) (fun k9 => ?_) (fun k9 => ?_)
  · replace hV := hV.1 k9
    refine r_sub (lo1 := [none, none, none, none]) ⟨Or.inl rfl, ⟨Or.inl rfl, ⟨Or.inl rfl, ⟨Or.inl rfl, trivial⟩⟩⟩⟩ ?_
    exact ok_X6_missing_20 hC hQ  h1 hV
  · replace hV := hV.2 k9
    refine r_iload_n hC dX6_missing_13 rfl ?_
    refine r_callS (As := [.int a2]) hC dX6_missing_14 rfl cf_X6_isSort ml_6_68 st_X6_isSort rfl ⟨(Nat.le_of_ble_eq_true rfl), (Nat.le_of_ble_eq_true rfl), (Nat.le_of_ble_eq_true rfl), (Nat.le_of_ble_eq_true rfl)⟩ cs0 (Nat.le_of_ble_eq_true rfl) (con_X6_isSort a2 h1 _ hV) rfl (kI (k := 0) (n := 0) (fun r2 h2 hV => ?_))
    refine r_if_ne (tgt := 22) hC dX6_missing_17 (by decide) (fun k9 => ?_) (fun k9 => ?_)
    · replace hV := hV.1 k9
      refine r_aload_n hC dX6_missing_22 rfl ?_
      refine r_aload_n hC dX6_missing_23 rfl ?_
      obtain ⟨k9, hV⟩ := hV
      refine r_callV (ci := 6) (As := [rv r1]) hC dX6_missing_24 rfl cf_X6_reckon ml_6_145 im_X6_reckon sl_X6_reckon lq_6 rfl rfl k9 rfl ⟨(Nat.le_of_ble_eq_true rfl), (Nat.le_of_ble_eq_true rfl), (Nat.le_of_ble_eq_true rfl), (Nat.le_of_ble_eq_true rfl)⟩ cs0 (Nat.le_of_ble_eq_true rfl) (con_X6_reckon a0 r1 h2 _ hV) rfl (kV (k := 0) (n := 0) (fun h3 hV => ?_))
      refine r_aload_n hC dX6_missing_27 rfl ?_
      refine r_iload_n hC dX6_missing_28 rfl ?_
      obtain ⟨k9, hV⟩ := hV
      refine r_callV (ci := 6) (As := [.int a2]) hC dX6_missing_29 rfl cf_X6_missingOf ml_6_149 im_X6_missingOf sl_X6_missingOf lq_6 rfl rfl k9 rfl ⟨(Nat.le_of_ble_eq_true rfl), (Nat.le_of_ble_eq_true rfl), (Nat.le_of_ble_eq_true rfl), (Nat.le_of_ble_eq_true rfl)⟩ cs0 (Nat.le_of_ble_eq_true rfl) (con_X6_missingOf a0 a2 h3 _ hV) rfl (kI (k := 0) (n := 0) (fun r3 h4 hV => ?_))
      exact r_iret hC hQ dX6_missing_32 (Nat.le_of_ble_eq_true rfl) (Nat.le_of_ble_eq_true rfl) ⟨_, rfl, hV⟩
    · replace hV := hV.2 k9
      refine r_sub (lo1 := [none, none, none, none]) ⟨Or.inl rfl, ⟨Or.inl rfl, ⟨Or.inl rfl, ⟨Or.inl rfl, trivial⟩⟩⟩⟩ ?_
      exact ok_X6_missing_20 hC hQ  h2 hV
set_option maxRecDepth 100000 in
set_option maxHeartbeats 4000000 in
theorem con_X6_missing {E : Ev} {l0 : Launch} (a0 : Nat) (a1 : Int32) (a2 : Int32) (h : Hp) (K : Int32 → Hp → Prop) (hV : V_X6_missing a0 a1 a2 h K) : Con E l0 yX6_missing cX6_missing 4 (some .int) rm_X6_missing [rv a0, .int a1, .int a2] h (KI K) := by
  refine Con.of (by decide +kernel) (cat_R (cat_I (cat_I cat_nil))) (Nat.le_of_ble_eq_true rfl) (fun X hC hQ => ?_)
  refine r_sub (lo1 := [some (rv a0), some (.int a1), some (.int a2), none]) (show lsub [some (rv a0), some (.int a1), some (.int a2), none] _ from ⟨Or.inr rfl, ⟨Or.inr rfl, ⟨Or.inr rfl, ⟨Or.inr rfl, trivial⟩⟩⟩⟩) ?_
  exact ok_X6_missing_0 hC hQ a0 a1 a2 h hV
theorem dX6_need_0 : decode cX6_need 0 = .ok (.aload_n 0, 1) := by decide +kernel
theorem dX6_need_1 : decode cX6_need 1 = .ok (.getfield 19, 3) := by decide +kernel
theorem dX6_need_4 : decode cX6_need 4 = .ok (.iload_n 1, 1) := by decide +kernel
theorem dX6_need_5 : decode cX6_need 5 = .ok (.invokevirtual 138, 3) := by decide +kernel
theorem dX6_need_8 : decode cX6_need 8 = .ok (.astore_n 3, 1) := by decide +kernel
theorem dX6_need_9 : decode cX6_need 9 = .ok (.aload_n 3, 1) := by decide +kernel
theorem dX6_need_10 : decode cX6_need 10 = .ok (.ifnull 10, 3) := by decide +kernel
theorem dX6_need_13 : decode cX6_need 13 = .ok (.iload_n 2, 1) := by decide +kernel
theorem dX6_need_14 : decode cX6_need 14 = .ok (.invokestatic 68, 3) := by decide +kernel
theorem dX6_need_17 : decode cX6_need 17 = .ok (.ifCond .ne 5, 3) := by decide +kernel
theorem dX6_need_20 : decode cX6_need 20 = .ok (.iconst (-1), 1) := by decide +kernel
theorem dX6_need_21 : decode cX6_need 21 = .ok (.ireturn, 1) := by decide +kernel
theorem dX6_need_22 : decode cX6_need 22 = .ok (.aload_n 0, 1) := by decide +kernel
theorem dX6_need_23 : decode cX6_need 23 = .ok (.aload_n 3, 1) := by decide +kernel
theorem dX6_need_24 : decode cX6_need 24 = .ok (.invokevirtual 145, 3) := by decide +kernel
theorem dX6_need_27 : decode cX6_need 27 = .ok (.aload_n 0, 1) := by decide +kernel
theorem dX6_need_28 : decode cX6_need 28 = .ok (.getfield 41, 3) := by decide +kernel
theorem dX6_need_31 : decode cX6_need 31 = .ok (.iload_n 2, 1) := by decide +kernel
theorem dX6_need_32 : decode cX6_need 32 = .ok (.iaload, 1) := by decide +kernel
theorem dX6_need_33 : decode cX6_need 33 = .ok (.ireturn, 1) := by decide +kernel
def rm_X6_need : Room := { frames := 4, cells := 0, slots := 0, locals := 90 }
set_option maxRecDepth 100000 in
set_option maxHeartbeats 4000000 in
theorem ok_X6_need_20 {E : Ev} {X : Xt} {l0 : Launch} {K : Int32 → Hp → Prop} (hC : Cx E X l0 RX6 cX6_need 4 rm_X6_need) (hQ : CQ E X "need" (some .int) rm_X6_need (KI K)) (h : Hp) (hV : V_X6_need_20 K  h) : WW E X h 0 0 20 [none, none, none, none] [] := by
  unfold V_X6_need_20 at hV
  refine r_iconst (v := (-1)) hC dX6_need_20 (by decide) ?_
  exact r_iret hC hQ dX6_need_21 (Nat.le_of_ble_eq_true rfl) (Nat.le_of_ble_eq_true rfl) ⟨_, rfl, hV⟩
set_option maxRecDepth 100000 in
set_option maxHeartbeats 4000000 in
theorem ok_X6_need_0 {E : Ev} {X : Xt} {l0 : Launch} {K : Int32 → Hp → Prop} (hC : Cx E X l0 RX6 cX6_need 4 rm_X6_need) (hQ : CQ E X "need" (some .int) rm_X6_need (KI K)) (a0 : Nat) (a1 : Int32) (a2 : Int32) (h : Hp) (hV : V_X6_need a0 a1 a2 h K) : WW E X h 0 0 0 [some (rv a0), some (.int a1), some (.int a2), none] [] := by
  unfold V_X6_need at hV
  refine r_aload_n hC dX6_need_0 rfl ?_
  obtain ⟨k9, hV⟩ := hV
  refine r_getR hC dX6_need_1 fl_6_19 rf_6_1 lq_6 k9 ?_
  refine r_iload_n hC dX6_need_4 rfl ?_
  obtain ⟨k9, hV⟩ := hV
  refine r_callV (ci := 5) (As := [.int a1]) hC dX6_need_5 rfl cf_X5_findJob ml_6_138 im_X5_findJob sl_X5_findJob lq_5 rfl rfl k9 rfl ⟨(Nat.le_of_ble_eq_true rfl), (Nat.le_of_ble_eq_true rfl), (Nat.le_of_ble_eq_true rfl), (Nat.le_of_ble_eq_true rfl)⟩ cs0 (Nat.le_of_ble_eq_true rfl) (con_X5_findJob (hR h a0 1) a1 h _ hV) rfl (kR (k := 0) (n := 0) (fun r1 h1 hV => ?_))
  refine r_astore_n (ii := 3) (lo1 := [some (rv a0), some (.int a1), some (.int a2), some (rv r1)]) hC dX6_need_8 rfl (Nat.le_of_ble_eq_true rfl) (pvI rfl) rfl ?_
  refine r_aload_n hC dX6_need_9 rfl ?_
  refine r_ifnull (tgt := 20) hC dX6_need_10 (by decide) (fun k9 => ?_) (fun k9 => ?_)
  · replace hV := hV.1 k9
    refine r_sub (lo1 := [none, none, none, none]) ⟨Or.inl rfl, ⟨Or.inl rfl, ⟨Or.inl rfl, ⟨Or.inl rfl, trivial⟩⟩⟩⟩ ?_
    exact ok_X6_need_20 hC hQ  h1 hV
  · replace hV := hV.2 k9
    refine r_iload_n hC dX6_need_13 rfl ?_
    refine r_callS (As := [.int a2]) hC dX6_need_14 rfl cf_X6_isSort ml_6_68 st_X6_isSort rfl ⟨(Nat.le_of_ble_eq_true rfl), (Nat.le_of_ble_eq_true rfl), (Nat.le_of_ble_eq_true rfl), (Nat.le_of_ble_eq_true rfl)⟩ cs0 (Nat.le_of_ble_eq_true rfl) (con_X6_isSort a2 h1 _ hV) rfl (kI (k := 0) (n := 0) (fun r2 h2 hV => ?_))
    refine r_if_ne (tgt := 22) hC dX6_need_17 (by decide) (fun k9 => ?_) (fun k9 => ?_)
    · replace hV := hV.1 k9
      refine r_aload_n hC dX6_need_22 rfl ?_
      refine r_aload_n hC dX6_need_23 rfl ?_
      obtain ⟨k9, hV⟩ := hV
      refine r_callV (ci := 6) (As := [rv r1]) hC dX6_need_24 rfl cf_X6_reckon ml_6_145 im_X6_reckon sl_X6_reckon lq_6 rfl rfl k9 rfl ⟨(Nat.le_of_ble_eq_true rfl), (Nat.le_of_ble_eq_true rfl), (Nat.le_of_ble_eq_true rfl), (Nat.le_of_ble_eq_true rfl)⟩ cs0 (Nat.le_of_ble_eq_true rfl) (con_X6_reckon a0 r1 h2 _ hV) rfl (kV (k := 0) (n := 0) (fun h3 hV => ?_))
      refine r_aload_n hC dX6_need_27 rfl ?_
      obtain ⟨k9, hV⟩ := hV
      refine r_getR hC dX6_need_28 fl_6_41 rf_6_6 lq_6 k9 ?_
      refine r_iload_n hC dX6_need_31 rfl ?_
      obtain ⟨k9, k8, hV⟩ := hV
      refine r_iald (kd := 37) hC dX6_need_32 (by decide) rfl k9 k8 ?_
      exact r_iret hC hQ dX6_need_33 (Nat.le_of_ble_eq_true rfl) (Nat.le_of_ble_eq_true rfl) ⟨_, rfl, hV⟩
    · replace hV := hV.2 k9
      refine r_sub (lo1 := [none, none, none, none]) ⟨Or.inl rfl, ⟨Or.inl rfl, ⟨Or.inl rfl, ⟨Or.inl rfl, trivial⟩⟩⟩⟩ ?_
      exact ok_X6_need_20 hC hQ  h2 hV
set_option maxRecDepth 100000 in
set_option maxHeartbeats 4000000 in
theorem con_X6_need {E : Ev} {l0 : Launch} (a0 : Nat) (a1 : Int32) (a2 : Int32) (h : Hp) (K : Int32 → Hp → Prop) (hV : V_X6_need a0 a1 a2 h K) : Con E l0 yX6_need cX6_need 4 (some .int) rm_X6_need [rv a0, .int a1, .int a2] h (KI K) := by
  refine Con.of (by decide +kernel) (cat_R (cat_I (cat_I cat_nil))) (Nat.le_of_ble_eq_true rfl) (fun X hC hQ => ?_)
  refine r_sub (lo1 := [some (rv a0), some (.int a1), some (.int a2), none]) (show lsub [some (rv a0), some (.int a1), some (.int a2), none] _ from ⟨Or.inr rfl, ⟨Or.inr rfl, ⟨Or.inr rfl, ⟨Or.inr rfl, trivial⟩⟩⟩⟩) ?_
  exact ok_X6_need_0 hC hQ a0 a1 a2 h hV
theorem dX6_order_0 : decode cX6_order 0 = .ok (.aload_n 0, 1) := by decide +kernel
theorem dX6_order_1 : decode cX6_order 1 = .ok (.iload_n 1, 1) := by decide +kernel
theorem dX6_order_2 : decode cX6_order 2 = .ok (.invokevirtual 64, 3) := by decide +kernel
theorem dX6_order_5 : decode cX6_order 5 = .ok (.ifCond .ne 5, 3) := by decide +kernel
theorem dX6_order_8 : decode cX6_order 8 = .ok (.iconst (-1), 1) := by decide +kernel
theorem dX6_order_9 : decode cX6_order 9 = .ok (.ireturn, 1) := by decide +kernel
theorem dX6_order_10 : decode cX6_order 10 = .ok (.iload_n 2, 1) := by decide +kernel
theorem dX6_order_11 : decode cX6_order 11 = .ok (.bipush 10, 2) := by decide +kernel
theorem dX6_order_13 : decode cX6_order 13 = .ok (.if_icmp .lt 21, 3) := by decide +kernel
theorem dX6_order_16 : decode cX6_order 16 = .ok (.iload_n 2, 1) := by decide +kernel
theorem dX6_order_17 : decode cX6_order 17 = .ok (.sipush 150, 3) := by decide +kernel
theorem dX6_order_20 : decode cX6_order 20 = .ok (.if_icmp .gt 14, 3) := by decide +kernel
theorem dX6_order_23 : decode cX6_order 23 = .ok (.iload_n 3, 1) := by decide +kernel
theorem dX6_order_24 : decode cX6_order 24 = .ok (.ifCond .lt 10, 3) := by decide +kernel
theorem dX6_order_27 : decode cX6_order 27 = .ok (.iload_n 3, 1) := by decide +kernel
theorem dX6_order_28 : decode cX6_order 28 = .ok (.sipush 9999, 3) := by decide +kernel
theorem dX6_order_31 : decode cX6_order 31 = .ok (.if_icmp .le 6, 3) := by decide +kernel
theorem dX6_order_34 : decode cX6_order 34 = .ok (.bipush (-2), 2) := by decide +kernel
theorem dX6_order_36 : decode cX6_order 36 = .ok (.ireturn, 1) := by decide +kernel
theorem dX6_order_37 : decode cX6_order 37 = .ok (.aload_n 0, 1) := by decide +kernel
theorem dX6_order_38 : decode cX6_order 38 = .ok (.getfield 10, 3) := by decide +kernel
theorem dX6_order_41 : decode cX6_order 41 = .ok (.invokevirtual 109, 3) := by decide +kernel
theorem dX6_order_44 : decode cX6_order 44 = .ok (.istore 4, 2) := by decide +kernel
theorem dX6_order_46 : decode cX6_order 46 = .ok (.iload 4, 2) := by decide +kernel
theorem dX6_order_48 : decode cX6_order 48 = .ok (.iconst (-1), 1) := by decide +kernel
theorem dX6_order_49 : decode cX6_order 49 = .ok (.if_icmp .eq 9, 3) := by decide +kernel
theorem dX6_order_52 : decode cX6_order 52 = .ok (.bipush (-100), 2) := by decide +kernel
theorem dX6_order_54 : decode cX6_order 54 = .ok (.iload 4, 2) := by decide +kernel
theorem dX6_order_56 : decode cX6_order 56 = .ok (.isub, 1) := by decide +kernel
theorem dX6_order_57 : decode cX6_order 57 = .ok (.ireturn, 1) := by decide +kernel
theorem dX6_order_58 : decode cX6_order 58 = .ok (.new 112, 3) := by decide +kernel
theorem dX6_order_61 : decode cX6_order 61 = .ok (.dup, 1) := by decide +kernel
theorem dX6_order_62 : decode cX6_order 62 = .ok (.aload_n 0, 1) := by decide +kernel
theorem dX6_order_63 : decode cX6_order 63 = .ok (.getfield 10, 3) := by decide +kernel
theorem dX6_order_66 : decode cX6_order 66 = .ok (.iload_n 2, 1) := by decide +kernel
theorem dX6_order_67 : decode cX6_order 67 = .ok (.invokespecial 114, 3) := by decide +kernel
theorem dX6_order_70 : decode cX6_order 70 = .ok (.astore 5, 2) := by decide +kernel
theorem dX6_order_72 : decode cX6_order 72 = .ok (.aload 5, 2) := by decide +kernel
theorem dX6_order_74 : decode cX6_order 74 = .ok (.getfield 117, 3) := by decide +kernel
theorem dX6_order_77 : decode cX6_order 77 = .ok (.ifCond .eq 6, 3) := by decide +kernel
theorem dX6_order_80 : decode cX6_order 80 = .ok (.bipush (-4), 2) := by decide +kernel
theorem dX6_order_82 : decode cX6_order 82 = .ok (.ireturn, 1) := by decide +kernel
theorem dX6_order_83 : decode cX6_order 83 = .ok (.aload_n 0, 1) := by decide +kernel
theorem dX6_order_84 : decode cX6_order 84 = .ok (.getfield 19, 3) := by decide +kernel
theorem dX6_order_87 : decode cX6_order 87 = .ok (.getfield 121, 3) := by decide +kernel
theorem dX6_order_90 : decode cX6_order 90 = .ok (.bipush 12, 2) := by decide +kernel
theorem dX6_order_92 : decode cX6_order 92 = .ok (.if_icmp .lt 6, 3) := by decide +kernel
theorem dX6_order_95 : decode cX6_order 95 = .ok (.bipush (-3), 2) := by decide +kernel
theorem dX6_order_97 : decode cX6_order 97 = .ok (.ireturn, 1) := by decide +kernel
theorem dX6_order_98 : decode cX6_order 98 = .ok (.aload_n 0, 1) := by decide +kernel
theorem dX6_order_99 : decode cX6_order 99 = .ok (.invokevirtual 55, 3) := by decide +kernel
theorem dX6_order_102 : decode cX6_order 102 = .ok (.aload_n 0, 1) := by decide +kernel
theorem dX6_order_103 : decode cX6_order 103 = .ok (.getfield 19, 3) := by decide +kernel
theorem dX6_order_106 : decode cX6_order 106 = .ok (.getfield 121, 3) := by decide +kernel
theorem dX6_order_109 : decode cX6_order 109 = .ok (.istore 6, 2) := by decide +kernel
theorem dX6_order_111 : decode cX6_order 111 = .ok (.aload_n 0, 1) := by decide +kernel
theorem dX6_order_112 : decode cX6_order 112 = .ok (.getfield 19, 3) := by decide +kernel
theorem dX6_order_115 : decode cX6_order 115 = .ok (.dup, 1) := by decide +kernel
theorem dX6_order_116 : decode cX6_order 116 = .ok (.getfield 121, 3) := by decide +kernel
theorem dX6_order_119 : decode cX6_order 119 = .ok (.iconst 1, 1) := by decide +kernel
theorem dX6_order_120 : decode cX6_order 120 = .ok (.iadd, 1) := by decide +kernel
theorem dX6_order_121 : decode cX6_order 121 = .ok (.putfield 121, 3) := by decide +kernel
theorem dX6_order_124 : decode cX6_order 124 = .ok (.aload_n 0, 1) := by decide +kernel
theorem dX6_order_125 : decode cX6_order 125 = .ok (.getfield 19, 3) := by decide +kernel
theorem dX6_order_128 : decode cX6_order 128 = .ok (.iload 6, 2) := by decide +kernel
theorem dX6_order_130 : decode cX6_order 130 = .ok (.new 124, 3) := by decide +kernel
theorem dX6_order_133 : decode cX6_order 133 = .ok (.dup, 1) := by decide +kernel
theorem dX6_order_134 : decode cX6_order 134 = .ok (.new 126, 3) := by decide +kernel
theorem dX6_order_137 : decode cX6_order 137 = .ok (.dup, 1) := by decide +kernel
theorem dX6_order_138 : decode cX6_order 138 = .ok (.iload_n 1, 1) := by decide +kernel
theorem dX6_order_139 : decode cX6_order 139 = .ok (.iload_n 2, 1) := by decide +kernel
theorem dX6_order_140 : decode cX6_order 140 = .ok (.iload_n 3, 1) := by decide +kernel
theorem dX6_order_141 : decode cX6_order 141 = .ok (.aload 5, 2) := by decide +kernel
theorem dX6_order_143 : decode cX6_order 143 = .ok (.invokespecial 128, 3) := by decide +kernel
theorem dX6_order_146 : decode cX6_order 146 = .ok (.iconst 0, 1) := by decide +kernel
theorem dX6_order_147 : decode cX6_order 147 = .ok (.bipush (-5), 2) := by decide +kernel
theorem dX6_order_149 : decode cX6_order 149 = .ok (.iconst 0, 1) := by decide +kernel
theorem dX6_order_150 : decode cX6_order 150 = .ok (.newarray .int, 2) := by decide +kernel
theorem dX6_order_152 : decode cX6_order 152 = .ok (.invokespecial 131, 3) := by decide +kernel
theorem dX6_order_155 : decode cX6_order 155 = .ok (.invokevirtual 134, 3) := by decide +kernel
theorem dX6_order_158 : decode cX6_order 158 = .ok (.iload 6, 2) := by decide +kernel
theorem dX6_order_160 : decode cX6_order 160 = .ok (.ireturn, 1) := by decide +kernel
def rm_X6_order : Room := { frames := 3, cells := 13, slots := 419, locals := 77 }
set_option maxRecDepth 100000 in
set_option maxHeartbeats 4000000 in
theorem ok_X6_order_34 {E : Ev} {X : Xt} {l0 : Launch} {K : Int32 → Hp → Prop} (hC : Cx E X l0 RX6 cX6_order 7 rm_X6_order) (hQ : CQ E X "order" (some .int) rm_X6_order (KI K)) (h : Hp) (hV : V_X6_order_34 K  h) : WW E X h 0 0 34 [none, none, none, none, none, none, none] [] := by
  unfold V_X6_order_34 at hV
  refine r_bipush (v := (-2)) hC dX6_order_34 (by decide) ?_
  exact r_iret hC hQ dX6_order_36 (Nat.le_of_ble_eq_true rfl) (Nat.le_of_ble_eq_true rfl) ⟨_, rfl, hV⟩
set_option maxRecDepth 100000 in
set_option maxHeartbeats 4000000 in
theorem ok_X6_order_0 {E : Ev} {X : Xt} {l0 : Launch} {K : Int32 → Hp → Prop} (hC : Cx E X l0 RX6 cX6_order 7 rm_X6_order) (hQ : CQ E X "order" (some .int) rm_X6_order (KI K)) (a0 : Nat) (a1 : Int32) (a2 : Int32) (a3 : Int32) (h : Hp) (hV : V_X6_order a0 a1 a2 a3 h K) : WW E X h 0 0 0 [some (rv a0), some (.int a1), some (.int a2), some (.int a3), none, none, none] [] := by
  unfold V_X6_order at hV
  refine r_aload_n hC dX6_order_0 rfl ?_
  refine r_iload_n hC dX6_order_1 rfl ?_
  obtain ⟨k9, hV⟩ := hV
  refine r_callV (ci := 6) (As := [.int a1]) hC dX6_order_2 rfl cf_X6_isCase ml_6_64 im_X6_isCase sl_X6_isCase lq_6 rfl rfl k9 rfl ⟨(Nat.le_of_ble_eq_true rfl), (Nat.le_of_ble_eq_true rfl), (Nat.le_of_ble_eq_true rfl), (Nat.le_of_ble_eq_true rfl)⟩ cs0 (Nat.le_of_ble_eq_true rfl) (con_X6_isCase a0 a1 h _ hV) rfl (kI (k := 0) (n := 0) (fun r1 h1 hV => ?_))
  refine r_if_ne (tgt := 10) hC dX6_order_5 (by decide) (fun k9 => ?_) (fun k9 => ?_)
  · replace hV := hV.1 k9
    refine r_iload_n hC dX6_order_10 rfl ?_
    refine r_bipush (v := 10) hC dX6_order_11 (by decide) ?_
    refine r_icmp_lt (tgt := 34) hC dX6_order_13 (by decide) (fun k9 => ?_) (fun k9 => ?_)
    · replace hV := hV.1 k9
      refine r_sub (lo1 := [none, none, none, none, none, none, none]) ⟨Or.inl rfl, ⟨Or.inl rfl, ⟨Or.inl rfl, ⟨Or.inl rfl, ⟨Or.inl rfl, ⟨Or.inl rfl, ⟨Or.inl rfl, trivial⟩⟩⟩⟩⟩⟩⟩ ?_
      exact ok_X6_order_34 hC hQ  h1 hV
    · replace hV := hV.2 k9
      refine r_iload_n hC dX6_order_16 rfl ?_
      refine r_sipush (v := 150) hC dX6_order_17 (by decide) ?_
      refine r_icmp_gt (tgt := 34) hC dX6_order_20 (by decide) (fun k9 => ?_) (fun k9 => ?_)
      · replace hV := hV.1 k9
        refine r_sub (lo1 := [none, none, none, none, none, none, none]) ⟨Or.inl rfl, ⟨Or.inl rfl, ⟨Or.inl rfl, ⟨Or.inl rfl, ⟨Or.inl rfl, ⟨Or.inl rfl, ⟨Or.inl rfl, trivial⟩⟩⟩⟩⟩⟩⟩ ?_
        exact ok_X6_order_34 hC hQ  h1 hV
      · replace hV := hV.2 k9
        refine r_iload_n hC dX6_order_23 rfl ?_
        refine r_if_lt (tgt := 34) hC dX6_order_24 (by decide) (fun k9 => ?_) (fun k9 => ?_)
        · replace hV := hV.1 k9
          refine r_sub (lo1 := [none, none, none, none, none, none, none]) ⟨Or.inl rfl, ⟨Or.inl rfl, ⟨Or.inl rfl, ⟨Or.inl rfl, ⟨Or.inl rfl, ⟨Or.inl rfl, ⟨Or.inl rfl, trivial⟩⟩⟩⟩⟩⟩⟩ ?_
          exact ok_X6_order_34 hC hQ  h1 hV
        · replace hV := hV.2 k9
          refine r_iload_n hC dX6_order_27 rfl ?_
          refine r_sipush (v := 9999) hC dX6_order_28 (by decide) ?_
          refine r_icmp_le (tgt := 37) hC dX6_order_31 (by decide) (fun k9 => ?_) (fun k9 => ?_)
          · replace hV := hV.1 k9
            refine r_aload_n hC dX6_order_37 rfl ?_
            obtain ⟨k9, hV⟩ := hV
            refine r_getR hC dX6_order_38 fl_6_10 rf_6_0 lq_6 k9 ?_
            obtain ⟨k9, hV⟩ := hV
            refine r_callV (ci := 0) (As := []) hC dX6_order_41 rfl cf_X0_findFault ml_6_109 im_X0_findFault sl_X0_findFault lq_0 rfl rfl k9 rfl ⟨(Nat.le_of_ble_eq_true rfl), (Nat.le_of_ble_eq_true rfl), (Nat.le_of_ble_eq_true rfl), (Nat.le_of_ble_eq_true rfl)⟩ cs0 (Nat.le_of_ble_eq_true rfl) (con_X0_findFault (hR h1 a0 0) h1 _ hV) rfl (kI (k := 0) (n := 0) (fun r2 h2 hV => ?_))
            refine r_istore (lo1 := [some (rv a0), some (.int a1), some (.int a2), some (.int a3), some (.int r2), none, none]) hC dX6_order_44 (Nat.le_of_ble_eq_true rfl) (pvI rfl) rfl ?_
            refine r_iload hC dX6_order_46 rfl ?_
            refine r_iconst (v := (-1)) hC dX6_order_48 (by decide) ?_
            refine r_icmp_eq (tgt := 58) hC dX6_order_49 (by decide) (fun k9 => ?_) (fun k9 => ?_)
            · replace hV := hV.1 k9
              refine r_new (ci := 2) hC dX6_order_58 kl_6_112 ki_2 kz_2 rfl iw_2 ft_2 df_2 lq_2 ⟨(Nat.le_of_ble_eq_true rfl), (Nat.le_of_ble_eq_true rfl)⟩ (fun q1 k9 k8 => nmH (fun h3 k7 => ?_))
              replace hV := hV q1 k9 k8 h3 k7
              refine r_dup hC dX6_order_61 (rv_cat _) ?_
              refine r_aload_n hC dX6_order_62 rfl ?_
              obtain ⟨k9, hV⟩ := hV
              refine r_getR hC dX6_order_63 fl_6_10 rf_6_0 lq_6 k9 ?_
              refine r_iload_n hC dX6_order_66 rfl ?_
              obtain ⟨k9, hV⟩ := hV
              refine r_callI (As := [rv (hR h3 a0 0), .int a2]) hC dX6_order_67 rfl cf_X2_init ml_6_114 rfl im_X2_init k9 rfl ⟨(Nat.le_of_ble_eq_true rfl), (Nat.le_of_ble_eq_true rfl), (Nat.le_of_ble_eq_true rfl), (Nat.le_of_ble_eq_true rfl)⟩ (csR cs0) (Nat.le_of_ble_eq_true rfl) (con_X2_init q1 (hR h3 a0 0) a2 h3 _ hV) rfl (kV (k := 6) (n := 185) (fun h4 hV => ?_))
              refine r_astore (lo1 := [some (rv a0), some (.int a1), some (.int a2), some (.int a3), some (.int r2), some (rv q1), none]) hC dX6_order_70 (Nat.le_of_ble_eq_true rfl) (pvI rfl) rfl ?_
              refine r_aload hC dX6_order_72 rfl ?_
              obtain ⟨k9, hV⟩ := hV
              refine r_getI hC dX6_order_74 fl_6_117 rf_2_8 lq_2 k9 ?_
              refine r_if_eq (tgt := 83) hC dX6_order_77 (by decide) (fun k9 => ?_) (fun k9 => ?_)
              · replace hV := hV.1 k9
                refine r_aload_n hC dX6_order_83 rfl ?_
                obtain ⟨k9, hV⟩ := hV
                refine r_getR hC dX6_order_84 fl_6_19 rf_6_1 lq_6 k9 ?_
                obtain ⟨k9, hV⟩ := hV
                refine r_getI hC dX6_order_87 fl_6_121 rf_5_4 lq_5 k9 ?_
                refine r_bipush (v := 12) hC dX6_order_90 (by decide) ?_
                refine r_icmp_lt (tgt := 98) hC dX6_order_92 (by decide) (fun k9 => ?_) (fun k9 => ?_)
                · replace hV := hV.1 k9
                  refine r_aload_n hC dX6_order_98 rfl ?_
                  obtain ⟨k9, hV⟩ := hV
                  refine r_callV (ci := 6) (As := []) hC dX6_order_99 rfl cf_X6_recordState ml_6_55 im_X6_recordState sl_X6_recordState lq_6 rfl rfl k9 rfl ⟨(Nat.le_of_ble_eq_true rfl), (Nat.le_of_ble_eq_true rfl), (Nat.le_of_ble_eq_true rfl), (Nat.le_of_ble_eq_true rfl)⟩ cs0 (Nat.le_of_ble_eq_true rfl) (con_X6_recordState a0 h4 _ hV) rfl (kV (k := 10) (n := 411) (fun h5 hV => ?_))
                  refine r_aload_n hC dX6_order_102 rfl ?_
                  obtain ⟨k9, hV⟩ := hV
                  refine r_getR hC dX6_order_103 fl_6_19 rf_6_1 lq_6 k9 ?_
                  obtain ⟨k9, hV⟩ := hV
                  refine r_getI hC dX6_order_106 fl_6_121 rf_5_4 lq_5 k9 ?_
                  refine r_istore (lo1 := [some (rv a0), some (.int a1), some (.int a2), some (.int a3), some (.int r2), some (rv q1), some (.int (hI h5 (hR h5 a0 1) 4))]) hC dX6_order_109 (Nat.le_of_ble_eq_true rfl) (pvR rfl) rfl ?_
                  refine r_aload_n hC dX6_order_111 rfl ?_
                  obtain ⟨k9, hV⟩ := hV
                  refine r_getR hC dX6_order_112 fl_6_19 rf_6_1 lq_6 k9 ?_
                  refine r_dup hC dX6_order_115 (rv_cat _) ?_
                  obtain ⟨k9, hV⟩ := hV
                  refine r_getI hC dX6_order_116 fl_6_121 rf_5_4 lq_5 k9 ?_
                  refine r_iconst (v := 1) hC dX6_order_119 (by decide) ?_
                  refine r_iadd hC dX6_order_120 ?_
                  obtain ⟨k9, hV⟩ := hV
                  refine r_putI hC dX6_order_121 fl_6_121 ft_5 rfl rf_5_4 ty_5_4 lq_5 k9 (nmH (fun h6 k9 => ?_))
                  replace hV := hV h6 k9
                  refine r_aload_n hC dX6_order_124 rfl ?_
                  obtain ⟨k9, hV⟩ := hV
                  refine r_getR hC dX6_order_125 fl_6_19 rf_6_1 lq_6 k9 ?_
                  refine r_iload hC dX6_order_128 rfl ?_
                  refine r_new (ci := 1) hC dX6_order_130 kl_6_124 ki_1 kz_1 rfl iw_1 ft_1 df_1 lq_1 ⟨(Nat.le_of_ble_eq_true rfl), (Nat.le_of_ble_eq_true rfl)⟩ (fun q2 k9 k8 => nmH (fun h7 k7 => ?_))
                  replace hV := hV q2 k9 k8 h7 k7
                  refine r_dup hC dX6_order_133 (rv_cat _) ?_
                  refine r_new (ci := 3) hC dX6_order_134 kl_6_126 ki_3 kz_3 rfl iw_3 ft_3 df_3 lq_3 ⟨(Nat.le_of_ble_eq_true rfl), (Nat.le_of_ble_eq_true rfl)⟩ (fun q3 k9 k8 => nmH (fun h8 k7 => ?_))
                  replace hV := hV q3 k9 k8 h8 k7
                  refine r_dup hC dX6_order_137 (rv_cat _) ?_
                  refine r_iload_n hC dX6_order_138 rfl ?_
                  refine r_iload_n hC dX6_order_139 rfl ?_
                  refine r_iload_n hC dX6_order_140 rfl ?_
                  refine r_aload hC dX6_order_141 rfl ?_
                  obtain ⟨k9, hV⟩ := hV
                  refine r_callI (As := [.int a1, .int a2, .int a3, rv q1]) hC dX6_order_143 rfl cf_X3_init ml_6_128 rfl im_X3_init k9 rfl ⟨(Nat.le_of_ble_eq_true rfl), (Nat.le_of_ble_eq_true rfl), (Nat.le_of_ble_eq_true rfl), (Nat.le_of_ble_eq_true rfl)⟩ (csR (csR (csR (csI (csR cs0))))) (Nat.le_of_ble_eq_true rfl) (con_X3_init q3 a1 a2 a3 q1 h8 _ hV) rfl (kV (k := 12) (n := 419) (fun h9 hV => ?_))
                  refine r_iconst (v := 0) hC dX6_order_146 (by decide) ?_
                  refine r_bipush (v := (-5)) hC dX6_order_147 (by decide) ?_
                  refine r_iconst (v := 0) hC dX6_order_149 (by decide) ?_
                  refine r_newarr (kd := 20) (d := 0) (N := 0) hC dX6_order_150 (by decide) rfl (by decide) rfl ka_0 (by decide) (by decide) (by decide) ⟨(Nat.le_of_ble_eq_true rfl), (Nat.le_of_ble_eq_true rfl)⟩ (fun q4 k9 k8 => nmH (fun h10 k7 => ?_))
                  replace hV := hV q4 k9 k8 h10 k7
                  obtain ⟨k9, hV⟩ := hV
                  refine r_callI (As := [rv q3, .int 0, .int (-5), rv q4]) hC dX6_order_152 rfl cf_X1_init ml_6_131 rfl im_X1_init k9 rfl ⟨(Nat.le_of_ble_eq_true rfl), (Nat.le_of_ble_eq_true rfl), (Nat.le_of_ble_eq_true rfl), (Nat.le_of_ble_eq_true rfl)⟩ (csR (csI (csR cs0))) (Nat.le_of_ble_eq_true rfl) (con_X1_init q2 q3 0 (-5) q4 h10 _ hV) rfl (kV (k := 13) (n := 419) (fun h11 hV => ?_))
                  obtain ⟨k9, hV⟩ := hV
                  refine r_callV (ci := 5) (As := [.int (hI h5 (hR h5 a0 1) 4), rv q2]) hC dX6_order_155 rfl cf_X5_putJob ml_6_134 im_X5_putJob sl_X5_putJob lq_5 rfl rfl k9 rfl ⟨(Nat.le_of_ble_eq_true rfl), (Nat.le_of_ble_eq_true rfl), (Nat.le_of_ble_eq_true rfl), (Nat.le_of_ble_eq_true rfl)⟩ cs0 (Nat.le_of_ble_eq_true rfl) (con_X5_putJob (hR h6 a0 1) (hI h5 (hR h5 a0 1) 4) q2 h11 _ hV) rfl (kV (k := 13) (n := 419) (fun h12 hV => ?_))
                  refine r_iload hC dX6_order_158 rfl ?_
                  exact r_iret hC hQ dX6_order_160 (Nat.le_of_ble_eq_true rfl) (Nat.le_of_ble_eq_true rfl) ⟨_, rfl, hV⟩
                · replace hV := hV.2 k9
                  refine r_bipush (v := (-3)) hC dX6_order_95 (by decide) ?_
                  exact r_iret hC hQ dX6_order_97 (Nat.le_of_ble_eq_true rfl) (Nat.le_of_ble_eq_true rfl) ⟨_, rfl, hV⟩
              · replace hV := hV.2 k9
                refine r_bipush (v := (-4)) hC dX6_order_80 (by decide) ?_
                exact r_iret hC hQ dX6_order_82 (Nat.le_of_ble_eq_true rfl) (Nat.le_of_ble_eq_true rfl) ⟨_, rfl, hV⟩
            · replace hV := hV.2 k9
              refine r_bipush (v := (-100)) hC dX6_order_52 (by decide) ?_
              refine r_iload hC dX6_order_54 rfl ?_
              refine r_isub hC dX6_order_56 ?_
              exact r_iret hC hQ dX6_order_57 (Nat.le_of_ble_eq_true rfl) (Nat.le_of_ble_eq_true rfl) ⟨_, rfl, hV⟩
          · replace hV := hV.2 k9
            refine r_sub (lo1 := [none, none, none, none, none, none, none]) ⟨Or.inl rfl, ⟨Or.inl rfl, ⟨Or.inl rfl, ⟨Or.inl rfl, ⟨Or.inl rfl, ⟨Or.inl rfl, ⟨Or.inl rfl, trivial⟩⟩⟩⟩⟩⟩⟩ ?_
            exact ok_X6_order_34 hC hQ  h1 hV
  · replace hV := hV.2 k9
    refine r_iconst (v := (-1)) hC dX6_order_8 (by decide) ?_
    exact r_iret hC hQ dX6_order_9 (Nat.le_of_ble_eq_true rfl) (Nat.le_of_ble_eq_true rfl) ⟨_, rfl, hV⟩
set_option maxRecDepth 100000 in
set_option maxHeartbeats 4000000 in
theorem con_X6_order {E : Ev} {l0 : Launch} (a0 : Nat) (a1 : Int32) (a2 : Int32) (a3 : Int32) (h : Hp) (K : Int32 → Hp → Prop) (hV : V_X6_order a0 a1 a2 a3 h K) : Con E l0 yX6_order cX6_order 7 (some .int) rm_X6_order [rv a0, .int a1, .int a2, .int a3] h (KI K) := by
  refine Con.of (by decide +kernel) (cat_R (cat_I (cat_I (cat_I cat_nil)))) (Nat.le_of_ble_eq_true rfl) (fun X hC hQ => ?_)
  refine r_sub (lo1 := [some (rv a0), some (.int a1), some (.int a2), some (.int a3), none, none, none]) (show lsub [some (rv a0), some (.int a1), some (.int a2), some (.int a3), none, none, none] _ from ⟨Or.inr rfl, ⟨Or.inr rfl, ⟨Or.inr rfl, ⟨Or.inr rfl, ⟨Or.inr rfl, ⟨Or.inr rfl, ⟨Or.inr rfl, trivial⟩⟩⟩⟩⟩⟩⟩) ?_
  exact ok_X6_order_0 hC hQ a0 a1 a2 a3 h hV
theorem dX6_pass_0 : decode cX6_pass 0 = .ok (.iload_n 1, 1) := by decide +kernel
theorem dX6_pass_1 : decode cX6_pass 1 = .ok (.iconst 1, 1) := by decide +kernel
theorem dX6_pass_2 : decode cX6_pass 2 = .ok (.if_icmp .lt 9, 3) := by decide +kernel
theorem dX6_pass_5 : decode cX6_pass 5 = .ok (.iload_n 1, 1) := by decide +kernel
theorem dX6_pass_6 : decode cX6_pass 6 = .ok (.bipush 30, 2) := by decide +kernel
theorem dX6_pass_8 : decode cX6_pass 8 = .ok (.if_icmp .le 6, 3) := by decide +kernel
theorem dX6_pass_11 : decode cX6_pass 11 = .ok (.bipush (-2), 2) := by decide +kernel
theorem dX6_pass_13 : decode cX6_pass 13 = .ok (.ireturn, 1) := by decide +kernel
theorem dX6_pass_14 : decode cX6_pass 14 = .ok (.aload_n 0, 1) := by decide +kernel
theorem dX6_pass_15 : decode cX6_pass 15 = .ok (.invokevirtual 55, 3) := by decide +kernel
theorem dX6_pass_18 : decode cX6_pass 18 = .ok (.aload_n 0, 1) := by decide +kernel
theorem dX6_pass_19 : decode cX6_pass 19 = .ok (.getfield 19, 3) := by decide +kernel
theorem dX6_pass_22 : decode cX6_pass 22 = .ok (.dup, 1) := by decide +kernel
theorem dX6_pass_23 : decode cX6_pass 23 = .ok (.getfield 166, 3) := by decide +kernel
theorem dX6_pass_26 : decode cX6_pass 26 = .ok (.iload_n 1, 1) := by decide +kernel
theorem dX6_pass_27 : decode cX6_pass 27 = .ok (.iadd, 1) := by decide +kernel
theorem dX6_pass_28 : decode cX6_pass 28 = .ok (.putfield 166, 3) := by decide +kernel
theorem dX6_pass_31 : decode cX6_pass 31 = .ok (.aload_n 0, 1) := by decide +kernel
theorem dX6_pass_32 : decode cX6_pass 32 = .ok (.getfield 19, 3) := by decide +kernel
theorem dX6_pass_35 : decode cX6_pass 35 = .ok (.getfield 166, 3) := by decide +kernel
theorem dX6_pass_38 : decode cX6_pass 38 = .ok (.ireturn, 1) := by decide +kernel
def rm_X6_pass : Room := { frames := 3, cells := 4, slots := 226, locals := 68 }
set_option maxRecDepth 100000 in
set_option maxHeartbeats 4000000 in
theorem ok_X6_pass_11 {E : Ev} {X : Xt} {l0 : Launch} {K : Int32 → Hp → Prop} (hC : Cx E X l0 RX6 cX6_pass 2 rm_X6_pass) (hQ : CQ E X "pass" (some .int) rm_X6_pass (KI K)) (h : Hp) (hV : V_X6_pass_11 K  h) : WW E X h 0 0 11 [none, none] [] := by
  unfold V_X6_pass_11 at hV
  refine r_bipush (v := (-2)) hC dX6_pass_11 (by decide) ?_
  exact r_iret hC hQ dX6_pass_13 (Nat.le_of_ble_eq_true rfl) (Nat.le_of_ble_eq_true rfl) ⟨_, rfl, hV⟩
set_option maxRecDepth 100000 in
set_option maxHeartbeats 4000000 in
theorem ok_X6_pass_0 {E : Ev} {X : Xt} {l0 : Launch} {K : Int32 → Hp → Prop} (hC : Cx E X l0 RX6 cX6_pass 2 rm_X6_pass) (hQ : CQ E X "pass" (some .int) rm_X6_pass (KI K)) (a0 : Nat) (a1 : Int32) (h : Hp) (hV : V_X6_pass a0 a1 h K) : WW E X h 0 0 0 [some (rv a0), some (.int a1)] [] := by
  unfold V_X6_pass at hV
  refine r_iload_n hC dX6_pass_0 rfl ?_
  refine r_iconst (v := 1) hC dX6_pass_1 (by decide) ?_
  refine r_icmp_lt (tgt := 11) hC dX6_pass_2 (by decide) (fun k9 => ?_) (fun k9 => ?_)
  · replace hV := hV.1 k9
    refine r_sub (lo1 := [none, none]) ⟨Or.inl rfl, ⟨Or.inl rfl, trivial⟩⟩ ?_
    exact ok_X6_pass_11 hC hQ  h hV
  · replace hV := hV.2 k9
    refine r_iload_n hC dX6_pass_5 rfl ?_
    refine r_bipush (v := 30) hC dX6_pass_6 (by decide) ?_
    refine r_icmp_le (tgt := 14) hC dX6_pass_8 (by decide) (fun k9 => ?_) (fun k9 => ?_)
    · replace hV := hV.1 k9
      refine r_aload_n hC dX6_pass_14 rfl ?_
      obtain ⟨k9, hV⟩ := hV
      refine r_callV (ci := 6) (As := []) hC dX6_pass_15 rfl cf_X6_recordState ml_6_55 im_X6_recordState sl_X6_recordState lq_6 rfl rfl k9 rfl ⟨(Nat.le_of_ble_eq_true rfl), (Nat.le_of_ble_eq_true rfl), (Nat.le_of_ble_eq_true rfl), (Nat.le_of_ble_eq_true rfl)⟩ cs0 (Nat.le_of_ble_eq_true rfl) (con_X6_recordState a0 h _ hV) rfl (kV (k := 4) (n := 226) (fun h1 hV => ?_))
      refine r_aload_n hC dX6_pass_18 rfl ?_
      obtain ⟨k9, hV⟩ := hV
      refine r_getR hC dX6_pass_19 fl_6_19 rf_6_1 lq_6 k9 ?_
      refine r_dup hC dX6_pass_22 (rv_cat _) ?_
      obtain ⟨k9, hV⟩ := hV
      refine r_getI hC dX6_pass_23 fl_6_166 rf_5_6 lq_5 k9 ?_
      refine r_iload_n hC dX6_pass_26 rfl ?_
      refine r_iadd hC dX6_pass_27 ?_
      obtain ⟨k9, hV⟩ := hV
      refine r_putI hC dX6_pass_28 fl_6_166 ft_5 rfl rf_5_6 ty_5_6 lq_5 k9 (nmH (fun h2 k9 => ?_))
      replace hV := hV h2 k9
      refine r_aload_n hC dX6_pass_31 rfl ?_
      obtain ⟨k9, hV⟩ := hV
      refine r_getR hC dX6_pass_32 fl_6_19 rf_6_1 lq_6 k9 ?_
      obtain ⟨k9, hV⟩ := hV
      refine r_getI hC dX6_pass_35 fl_6_166 rf_5_6 lq_5 k9 ?_
      exact r_iret hC hQ dX6_pass_38 (Nat.le_of_ble_eq_true rfl) (Nat.le_of_ble_eq_true rfl) ⟨_, rfl, hV⟩
    · replace hV := hV.2 k9
      refine r_sub (lo1 := [none, none]) ⟨Or.inl rfl, ⟨Or.inl rfl, trivial⟩⟩ ?_
      exact ok_X6_pass_11 hC hQ  h hV
set_option maxRecDepth 100000 in
set_option maxHeartbeats 4000000 in
theorem con_X6_pass {E : Ev} {l0 : Launch} (a0 : Nat) (a1 : Int32) (h : Hp) (K : Int32 → Hp → Prop) (hV : V_X6_pass a0 a1 h K) : Con E l0 yX6_pass cX6_pass 2 (some .int) rm_X6_pass [rv a0, .int a1] h (KI K) := by
  refine Con.of (by decide +kernel) (cat_R (cat_I cat_nil)) (Nat.le_of_ble_eq_true rfl) (fun X hC hQ => ?_)
  refine r_sub (lo1 := [some (rv a0), some (.int a1)]) (show lsub [some (rv a0), some (.int a1)] _ from ⟨Or.inr rfl, ⟨Or.inr rfl, trivial⟩⟩) ?_
  exact ok_X6_pass_0 hC hQ a0 a1 h hV
theorem dX6_pieceAt_0 : decode cX6_pieceAt 0 = .ok (.aload_n 0, 1) := by decide +kernel
theorem dX6_pieceAt_1 : decode cX6_pieceAt 1 = .ok (.getfield 19, 3) := by decide +kernel
theorem dX6_pieceAt_4 : decode cX6_pieceAt 4 = .ok (.iload_n 1, 1) := by decide +kernel
theorem dX6_pieceAt_5 : decode cX6_pieceAt 5 = .ok (.invokevirtual 138, 3) := by decide +kernel
theorem dX6_pieceAt_8 : decode cX6_pieceAt 8 = .ok (.astore 4, 2) := by decide +kernel
theorem dX6_pieceAt_10 : decode cX6_pieceAt 10 = .ok (.aload 4, 2) := by decide +kernel
theorem dX6_pieceAt_12 : decode cX6_pieceAt 12 = .ok (.ifnonnull 5, 3) := by decide +kernel
theorem dX6_pieceAt_15 : decode cX6_pieceAt 15 = .ok (.iconst (-1), 1) := by decide +kernel
theorem dX6_pieceAt_16 : decode cX6_pieceAt 16 = .ok (.ireturn, 1) := by decide +kernel
theorem dX6_pieceAt_17 : decode cX6_pieceAt 17 = .ok (.aload 4, 2) := by decide +kernel
theorem dX6_pieceAt_19 : decode cX6_pieceAt 19 = .ok (.invokevirtual 230, 3) := by decide +kernel
theorem dX6_pieceAt_22 : decode cX6_pieceAt 22 = .ok (.ifCond .ne 6, 3) := by decide +kernel
theorem dX6_pieceAt_25 : decode cX6_pieceAt 25 = .ok (.bipush (-4), 2) := by decide +kernel
theorem dX6_pieceAt_27 : decode cX6_pieceAt 27 = .ok (.ireturn, 1) := by decide +kernel
theorem dX6_pieceAt_28 : decode cX6_pieceAt 28 = .ok (.aload 4, 2) := by decide +kernel
theorem dX6_pieceAt_30 : decode cX6_pieceAt 30 = .ok (.getfield 152, 3) := by decide +kernel
theorem dX6_pieceAt_33 : decode cX6_pieceAt 33 = .ok (.getfield 202, 3) := by decide +kernel
theorem dX6_pieceAt_36 : decode cX6_pieceAt 36 = .ok (.iload_n 2, 1) := by decide +kernel
theorem dX6_pieceAt_37 : decode cX6_pieceAt 37 = .ok (.invokevirtual 218, 3) := by decide +kernel
theorem dX6_pieceAt_40 : decode cX6_pieceAt 40 = .ok (.ifCond .eq 7, 3) := by decide +kernel
theorem dX6_pieceAt_43 : decode cX6_pieceAt 43 = .ok (.iload_n 3, 1) := by decide +kernel
theorem dX6_pieceAt_44 : decode cX6_pieceAt 44 = .ok (.ifCond .ge 6, 3) := by decide +kernel
theorem dX6_pieceAt_47 : decode cX6_pieceAt 47 = .ok (.bipush (-5), 2) := by decide +kernel
theorem dX6_pieceAt_49 : decode cX6_pieceAt 49 = .ok (.ireturn, 1) := by decide +kernel
theorem dX6_pieceAt_50 : decode cX6_pieceAt 50 = .ok (.aload_n 0, 1) := by decide +kernel
theorem dX6_pieceAt_51 : decode cX6_pieceAt 51 = .ok (.aload 4, 2) := by decide +kernel
theorem dX6_pieceAt_53 : decode cX6_pieceAt 53 = .ok (.iload_n 2, 1) := by decide +kernel
theorem dX6_pieceAt_54 : decode cX6_pieceAt 54 = .ok (.iload_n 3, 1) := by decide +kernel
theorem dX6_pieceAt_55 : decode cX6_pieceAt 55 = .ok (.invokevirtual 233, 3) := by decide +kernel
theorem dX6_pieceAt_58 : decode cX6_pieceAt 58 = .ok (.ireturn, 1) := by decide +kernel
def rm_X6_pieceAt : Room := { frames := 4, cells := 0, slots := 0, locals := 95 }
set_option maxRecDepth 100000 in
set_option maxHeartbeats 4000000 in
theorem ok_X6_pieceAt_47 {E : Ev} {X : Xt} {l0 : Launch} {K : Int32 → Hp → Prop} (hC : Cx E X l0 RX6 cX6_pieceAt 5 rm_X6_pieceAt) (hQ : CQ E X "pieceAt" (some .int) rm_X6_pieceAt (KI K)) (h : Hp) (hV : V_X6_pieceAt_47 K  h) : WW E X h 0 0 47 [none, none, none, none, none] [] := by
  unfold V_X6_pieceAt_47 at hV
  refine r_bipush (v := (-5)) hC dX6_pieceAt_47 (by decide) ?_
  exact r_iret hC hQ dX6_pieceAt_49 (Nat.le_of_ble_eq_true rfl) (Nat.le_of_ble_eq_true rfl) ⟨_, rfl, hV⟩
set_option maxRecDepth 100000 in
set_option maxHeartbeats 4000000 in
theorem ok_X6_pieceAt_0 {E : Ev} {X : Xt} {l0 : Launch} {K : Int32 → Hp → Prop} (hC : Cx E X l0 RX6 cX6_pieceAt 5 rm_X6_pieceAt) (hQ : CQ E X "pieceAt" (some .int) rm_X6_pieceAt (KI K)) (a0 : Nat) (a1 : Int32) (a2 : Int32) (a3 : Int32) (h : Hp) (hV : V_X6_pieceAt a0 a1 a2 a3 h K) : WW E X h 0 0 0 [some (rv a0), some (.int a1), some (.int a2), some (.int a3), none] [] := by
  unfold V_X6_pieceAt at hV
  refine r_aload_n hC dX6_pieceAt_0 rfl ?_
  obtain ⟨k9, hV⟩ := hV
  refine r_getR hC dX6_pieceAt_1 fl_6_19 rf_6_1 lq_6 k9 ?_
  refine r_iload_n hC dX6_pieceAt_4 rfl ?_
  obtain ⟨k9, hV⟩ := hV
  refine r_callV (ci := 5) (As := [.int a1]) hC dX6_pieceAt_5 rfl cf_X5_findJob ml_6_138 im_X5_findJob sl_X5_findJob lq_5 rfl rfl k9 rfl ⟨(Nat.le_of_ble_eq_true rfl), (Nat.le_of_ble_eq_true rfl), (Nat.le_of_ble_eq_true rfl), (Nat.le_of_ble_eq_true rfl)⟩ cs0 (Nat.le_of_ble_eq_true rfl) (con_X5_findJob (hR h a0 1) a1 h _ hV) rfl (kR (k := 0) (n := 0) (fun r1 h1 hV => ?_))
  refine r_astore (lo1 := [some (rv a0), some (.int a1), some (.int a2), some (.int a3), some (rv r1)]) hC dX6_pieceAt_8 (Nat.le_of_ble_eq_true rfl) (pvI rfl) rfl ?_
  refine r_aload hC dX6_pieceAt_10 rfl ?_
  refine r_ifnonnull (tgt := 17) hC dX6_pieceAt_12 (by decide) (fun k9 => ?_) (fun k9 => ?_)
  · replace hV := hV.1 k9
    refine r_aload hC dX6_pieceAt_17 rfl ?_
    obtain ⟨k9, hV⟩ := hV
    refine r_callV (ci := 1) (As := []) hC dX6_pieceAt_19 rfl cf_X1_hasForme ml_6_230 im_X1_hasForme sl_X1_hasForme lq_1 rfl rfl k9 rfl ⟨(Nat.le_of_ble_eq_true rfl), (Nat.le_of_ble_eq_true rfl), (Nat.le_of_ble_eq_true rfl), (Nat.le_of_ble_eq_true rfl)⟩ cs0 (Nat.le_of_ble_eq_true rfl) (con_X1_hasForme r1 h1 _ hV) rfl (kI (k := 0) (n := 0) (fun r2 h2 hV => ?_))
    refine r_if_ne (tgt := 28) hC dX6_pieceAt_22 (by decide) (fun k9 => ?_) (fun k9 => ?_)
    · replace hV := hV.1 k9
      refine r_aload hC dX6_pieceAt_28 rfl ?_
      obtain ⟨k9, hV⟩ := hV
      refine r_getR hC dX6_pieceAt_30 fl_6_152 rf_1_0 lq_1 k9 ?_
      obtain ⟨k9, hV⟩ := hV
      refine r_getR hC dX6_pieceAt_33 fl_6_202 rf_3_3 lq_3 k9 ?_
      refine r_iload_n hC dX6_pieceAt_36 rfl ?_
      obtain ⟨k9, hV⟩ := hV
      refine r_callV (ci := 2) (As := [.int a2]) hC dX6_pieceAt_37 rfl cf_X2_hasLine ml_6_218 im_X2_hasLine sl_X2_hasLine lq_2 rfl rfl k9 rfl ⟨(Nat.le_of_ble_eq_true rfl), (Nat.le_of_ble_eq_true rfl), (Nat.le_of_ble_eq_true rfl), (Nat.le_of_ble_eq_true rfl)⟩ cs0 (Nat.le_of_ble_eq_true rfl) (con_X2_hasLine (hR h2 (hR h2 r1 0) 3) a2 h2 _ hV) rfl (kI (k := 0) (n := 0) (fun r3 h3 hV => ?_))
      refine r_if_eq (tgt := 47) hC dX6_pieceAt_40 (by decide) (fun k9 => ?_) (fun k9 => ?_)
      · replace hV := hV.1 k9
        refine r_sub (lo1 := [none, none, none, none, none]) ⟨Or.inl rfl, ⟨Or.inl rfl, ⟨Or.inl rfl, ⟨Or.inl rfl, ⟨Or.inl rfl, trivial⟩⟩⟩⟩⟩ ?_
        exact ok_X6_pieceAt_47 hC hQ  h3 hV
      · replace hV := hV.2 k9
        refine r_iload_n hC dX6_pieceAt_43 rfl ?_
        refine r_if_ge (tgt := 50) hC dX6_pieceAt_44 (by decide) (fun k9 => ?_) (fun k9 => ?_)
        · replace hV := hV.1 k9
          refine r_aload_n hC dX6_pieceAt_50 rfl ?_
          refine r_aload hC dX6_pieceAt_51 rfl ?_
          refine r_iload_n hC dX6_pieceAt_53 rfl ?_
          refine r_iload_n hC dX6_pieceAt_54 rfl ?_
          obtain ⟨k9, hV⟩ := hV
          refine r_callV (ci := 6) (As := [rv r1, .int a2, .int a3]) hC dX6_pieceAt_55 rfl cf_X6_findPiece ml_6_233 im_X6_findPiece sl_X6_findPiece lq_6 rfl rfl k9 rfl ⟨(Nat.le_of_ble_eq_true rfl), (Nat.le_of_ble_eq_true rfl), (Nat.le_of_ble_eq_true rfl), (Nat.le_of_ble_eq_true rfl)⟩ cs0 (Nat.le_of_ble_eq_true rfl) (con_X6_findPiece a0 r1 a2 a3 h3 _ hV) rfl (kI (k := 0) (n := 0) (fun r4 h4 hV => ?_))
          exact r_iret hC hQ dX6_pieceAt_58 (Nat.le_of_ble_eq_true rfl) (Nat.le_of_ble_eq_true rfl) ⟨_, rfl, hV⟩
        · replace hV := hV.2 k9
          refine r_sub (lo1 := [none, none, none, none, none]) ⟨Or.inl rfl, ⟨Or.inl rfl, ⟨Or.inl rfl, ⟨Or.inl rfl, ⟨Or.inl rfl, trivial⟩⟩⟩⟩⟩ ?_
          exact ok_X6_pieceAt_47 hC hQ  h3 hV
    · replace hV := hV.2 k9
      refine r_bipush (v := (-4)) hC dX6_pieceAt_25 (by decide) ?_
      exact r_iret hC hQ dX6_pieceAt_27 (Nat.le_of_ble_eq_true rfl) (Nat.le_of_ble_eq_true rfl) ⟨_, rfl, hV⟩
  · replace hV := hV.2 k9
    refine r_iconst (v := (-1)) hC dX6_pieceAt_15 (by decide) ?_
    exact r_iret hC hQ dX6_pieceAt_16 (Nat.le_of_ble_eq_true rfl) (Nat.le_of_ble_eq_true rfl) ⟨_, rfl, hV⟩
set_option maxRecDepth 100000 in
set_option maxHeartbeats 4000000 in
theorem con_X6_pieceAt {E : Ev} {l0 : Launch} (a0 : Nat) (a1 : Int32) (a2 : Int32) (a3 : Int32) (h : Hp) (K : Int32 → Hp → Prop) (hV : V_X6_pieceAt a0 a1 a2 a3 h K) : Con E l0 yX6_pieceAt cX6_pieceAt 5 (some .int) rm_X6_pieceAt [rv a0, .int a1, .int a2, .int a3] h (KI K) := by
  refine Con.of (by decide +kernel) (cat_R (cat_I (cat_I (cat_I cat_nil)))) (Nat.le_of_ble_eq_true rfl) (fun X hC hQ => ?_)
  refine r_sub (lo1 := [some (rv a0), some (.int a1), some (.int a2), some (.int a3), none]) (show lsub [some (rv a0), some (.int a1), some (.int a2), some (.int a3), none] _ from ⟨Or.inr rfl, ⟨Or.inr rfl, ⟨Or.inr rfl, ⟨Or.inr rfl, ⟨Or.inr rfl, trivial⟩⟩⟩⟩⟩) ?_
  exact ok_X6_pieceAt_0 hC hQ a0 a1 a2 a3 h hV
theorem dX6_pieces_0 : decode cX6_pieces 0 = .ok (.iload_n 2, 1) := by decide +kernel
theorem dX6_pieces_1 : decode cX6_pieces 1 = .ok (.invokestatic 68, 3) := by decide +kernel
theorem dX6_pieces_4 : decode cX6_pieces 4 = .ok (.ifCond .ne 5, 3) := by decide +kernel
theorem dX6_pieces_7 : decode cX6_pieces 7 = .ok (.iconst (-1), 1) := by decide +kernel
theorem dX6_pieces_8 : decode cX6_pieces 8 = .ok (.ireturn, 1) := by decide +kernel
theorem dX6_pieces_9 : decode cX6_pieces 9 = .ok (.iload_n 1, 1) := by decide +kernel
theorem dX6_pieces_10 : decode cX6_pieces 10 = .ok (.iconst (-1), 1) := by decide +kernel
theorem dX6_pieces_11 : decode cX6_pieces 11 = .ok (.if_icmp .ne 13, 3) := by decide +kernel
theorem dX6_pieces_14 : decode cX6_pieces 14 = .ok (.aload_n 0, 1) := by decide +kernel
theorem dX6_pieces_15 : decode cX6_pieces 15 = .ok (.getfield 19, 3) := by decide +kernel
theorem dX6_pieces_18 : decode cX6_pieces 18 = .ok (.getfield 193, 3) := by decide +kernel
theorem dX6_pieces_21 : decode cX6_pieces 21 = .ok (.iload_n 2, 1) := by decide +kernel
theorem dX6_pieces_22 : decode cX6_pieces 22 = .ok (.iaload, 1) := by decide +kernel
theorem dX6_pieces_23 : decode cX6_pieces 23 = .ok (.ireturn, 1) := by decide +kernel
theorem dX6_pieces_24 : decode cX6_pieces 24 = .ok (.aload_n 0, 1) := by decide +kernel
theorem dX6_pieces_25 : decode cX6_pieces 25 = .ok (.iload_n 1, 1) := by decide +kernel
theorem dX6_pieces_26 : decode cX6_pieces 26 = .ok (.invokevirtual 64, 3) := by decide +kernel
theorem dX6_pieces_29 : decode cX6_pieces 29 = .ok (.ifCond .eq 15, 3) := by decide +kernel
theorem dX6_pieces_32 : decode cX6_pieces 32 = .ok (.aload_n 0, 1) := by decide +kernel
theorem dX6_pieces_33 : decode cX6_pieces 33 = .ok (.getfield 19, 3) := by decide +kernel
theorem dX6_pieces_36 : decode cX6_pieces 36 = .ok (.iload_n 1, 1) := by decide +kernel
theorem dX6_pieces_37 : decode cX6_pieces 37 = .ok (.iload_n 2, 1) := by decide +kernel
theorem dX6_pieces_38 : decode cX6_pieces 38 = .ok (.invokevirtual 75, 3) := by decide +kernel
theorem dX6_pieces_41 : decode cX6_pieces 41 = .ok (.goto 4, 3) := by decide +kernel
theorem dX6_pieces_44 : decode cX6_pieces 44 = .ok (.iconst (-1), 1) := by decide +kernel
theorem dX6_pieces_45 : decode cX6_pieces 45 = .ok (.ireturn, 1) := by decide +kernel
def rm_X6_pieces : Room := { frames := 2, cells := 0, slots := 0, locals := 44 }
set_option maxRecDepth 100000 in
set_option maxHeartbeats 4000000 in
theorem ok_X6_pieces_45 {E : Ev} {X : Xt} {l0 : Launch} {K : Int32 → Hp → Prop} (hC : Cx E X l0 RX6 cX6_pieces 3 rm_X6_pieces) (hQ : CQ E X "pieces" (some .int) rm_X6_pieces (KI K)) (s0 : Int32) (h : Hp) (hV : V_X6_pieces_45 K s0 h) : WW E X h 0 0 45 [none, none, none] [.int s0] := by
  unfold V_X6_pieces_45 at hV
  exact r_iret hC hQ dX6_pieces_45 (Nat.le_of_ble_eq_true rfl) (Nat.le_of_ble_eq_true rfl) ⟨_, rfl, hV⟩
set_option maxRecDepth 100000 in
set_option maxHeartbeats 4000000 in
theorem ok_X6_pieces_0 {E : Ev} {X : Xt} {l0 : Launch} {K : Int32 → Hp → Prop} (hC : Cx E X l0 RX6 cX6_pieces 3 rm_X6_pieces) (hQ : CQ E X "pieces" (some .int) rm_X6_pieces (KI K)) (a0 : Nat) (a1 : Int32) (a2 : Int32) (h : Hp) (hV : V_X6_pieces a0 a1 a2 h K) : WW E X h 0 0 0 [some (rv a0), some (.int a1), some (.int a2)] [] := by
  unfold V_X6_pieces at hV
  refine r_iload_n hC dX6_pieces_0 rfl ?_
  refine r_callS (As := [.int a2]) hC dX6_pieces_1 rfl cf_X6_isSort ml_6_68 st_X6_isSort rfl ⟨(Nat.le_of_ble_eq_true rfl), (Nat.le_of_ble_eq_true rfl), (Nat.le_of_ble_eq_true rfl), (Nat.le_of_ble_eq_true rfl)⟩ cs0 (Nat.le_of_ble_eq_true rfl) (con_X6_isSort a2 h _ hV) rfl (kI (k := 0) (n := 0) (fun r1 h1 hV => ?_))
  refine r_if_ne (tgt := 9) hC dX6_pieces_4 (by decide) (fun k9 => ?_) (fun k9 => ?_)
  · replace hV := hV.1 k9
    refine r_iload_n hC dX6_pieces_9 rfl ?_
    refine r_iconst (v := (-1)) hC dX6_pieces_10 (by decide) ?_
    refine r_icmp_ne (tgt := 24) hC dX6_pieces_11 (by decide) (fun k9 => ?_) (fun k9 => ?_)
    · replace hV := hV.1 k9
      refine r_aload_n hC dX6_pieces_24 rfl ?_
      refine r_iload_n hC dX6_pieces_25 rfl ?_
      obtain ⟨k9, hV⟩ := hV
      refine r_callV (ci := 6) (As := [.int a1]) hC dX6_pieces_26 rfl cf_X6_isCase ml_6_64 im_X6_isCase sl_X6_isCase lq_6 rfl rfl k9 rfl ⟨(Nat.le_of_ble_eq_true rfl), (Nat.le_of_ble_eq_true rfl), (Nat.le_of_ble_eq_true rfl), (Nat.le_of_ble_eq_true rfl)⟩ cs0 (Nat.le_of_ble_eq_true rfl) (con_X6_isCase a0 a1 h1 _ hV) rfl (kI (k := 0) (n := 0) (fun r2 h2 hV => ?_))
      refine r_if_eq (tgt := 44) hC dX6_pieces_29 (by decide) (fun k9 => ?_) (fun k9 => ?_)
      · replace hV := hV.1 k9
        refine r_iconst (v := (-1)) hC dX6_pieces_44 (by decide) ?_
        refine r_sub (lo1 := [none, none, none]) ⟨Or.inl rfl, ⟨Or.inl rfl, ⟨Or.inl rfl, trivial⟩⟩⟩ ?_
        exact ok_X6_pieces_45 hC hQ (-1) h2 hV
      · replace hV := hV.2 k9
        refine r_aload_n hC dX6_pieces_32 rfl ?_
        obtain ⟨k9, hV⟩ := hV
        refine r_getR hC dX6_pieces_33 fl_6_19 rf_6_1 lq_6 k9 ?_
        refine r_iload_n hC dX6_pieces_36 rfl ?_
        refine r_iload_n hC dX6_pieces_37 rfl ?_
        obtain ⟨k9, hV⟩ := hV
        refine r_callV (ci := 5) (As := [.int a1, .int a2]) hC dX6_pieces_38 rfl cf_X5_held ml_6_75 im_X5_held sl_X5_held lq_5 rfl rfl k9 rfl ⟨(Nat.le_of_ble_eq_true rfl), (Nat.le_of_ble_eq_true rfl), (Nat.le_of_ble_eq_true rfl), (Nat.le_of_ble_eq_true rfl)⟩ cs0 (Nat.le_of_ble_eq_true rfl) (con_X5_held (hR h2 a0 1) a1 a2 h2 _ hV) rfl (kI (k := 0) (n := 0) (fun r3 h3 hV => ?_))
        refine r_goto (tgt := 45) hC dX6_pieces_41 (by decide) ?_
        refine r_sub (lo1 := [none, none, none]) ⟨Or.inl rfl, ⟨Or.inl rfl, ⟨Or.inl rfl, trivial⟩⟩⟩ ?_
        exact ok_X6_pieces_45 hC hQ r3 h3 hV
    · replace hV := hV.2 k9
      refine r_aload_n hC dX6_pieces_14 rfl ?_
      obtain ⟨k9, hV⟩ := hV
      refine r_getR hC dX6_pieces_15 fl_6_19 rf_6_1 lq_6 k9 ?_
      obtain ⟨k9, hV⟩ := hV
      refine r_getR hC dX6_pieces_18 fl_6_193 rf_5_1 lq_5 k9 ?_
      refine r_iload_n hC dX6_pieces_21 rfl ?_
      obtain ⟨k9, k8, hV⟩ := hV
      refine r_iald (kd := 36) hC dX6_pieces_22 (by decide) rfl k9 k8 ?_
      exact r_iret hC hQ dX6_pieces_23 (Nat.le_of_ble_eq_true rfl) (Nat.le_of_ble_eq_true rfl) ⟨_, rfl, hV⟩
  · replace hV := hV.2 k9
    refine r_iconst (v := (-1)) hC dX6_pieces_7 (by decide) ?_
    exact r_iret hC hQ dX6_pieces_8 (Nat.le_of_ble_eq_true rfl) (Nat.le_of_ble_eq_true rfl) ⟨_, rfl, hV⟩
set_option maxRecDepth 100000 in
set_option maxHeartbeats 4000000 in
theorem con_X6_pieces {E : Ev} {l0 : Launch} (a0 : Nat) (a1 : Int32) (a2 : Int32) (h : Hp) (K : Int32 → Hp → Prop) (hV : V_X6_pieces a0 a1 a2 h K) : Con E l0 yX6_pieces cX6_pieces 3 (some .int) rm_X6_pieces [rv a0, .int a1, .int a2] h (KI K) := by
  refine Con.of (by decide +kernel) (cat_R (cat_I (cat_I cat_nil))) (Nat.le_of_ble_eq_true rfl) (fun X hC hQ => ?_)
  refine r_sub (lo1 := [some (rv a0), some (.int a1), some (.int a2)]) (show lsub [some (rv a0), some (.int a1), some (.int a2)] _ from ⟨Or.inr rfl, ⟨Or.inr rfl, ⟨Or.inr rfl, trivial⟩⟩⟩) ?_
  exact ok_X6_pieces_0 hC hQ a0 a1 a2 h hV
theorem dX6_print_0 : decode cX6_print 0 = .ok (.aload_n 0, 1) := by decide +kernel
theorem dX6_print_1 : decode cX6_print 1 = .ok (.getfield 19, 3) := by decide +kernel
theorem dX6_print_4 : decode cX6_print 4 = .ok (.iload_n 1, 1) := by decide +kernel
theorem dX6_print_5 : decode cX6_print 5 = .ok (.invokevirtual 138, 3) := by decide +kernel
theorem dX6_print_8 : decode cX6_print 8 = .ok (.astore_n 2, 1) := by decide +kernel
theorem dX6_print_9 : decode cX6_print 9 = .ok (.aload_n 2, 1) := by decide +kernel
theorem dX6_print_10 : decode cX6_print 10 = .ok (.ifnonnull 5, 3) := by decide +kernel
theorem dX6_print_13 : decode cX6_print 13 = .ok (.iconst (-1), 1) := by decide +kernel
theorem dX6_print_14 : decode cX6_print 14 = .ok (.ireturn, 1) := by decide +kernel
theorem dX6_print_15 : decode cX6_print 15 = .ok (.aload_n 2, 1) := by decide +kernel
theorem dX6_print_16 : decode cX6_print 16 = .ok (.getfield 142, 3) := by decide +kernel
theorem dX6_print_19 : decode cX6_print 19 = .ok (.iconst 1, 1) := by decide +kernel
theorem dX6_print_20 : decode cX6_print 20 = .ok (.if_icmp .eq 6, 3) := by decide +kernel
theorem dX6_print_23 : decode cX6_print 23 = .ok (.bipush (-4), 2) := by decide +kernel
theorem dX6_print_25 : decode cX6_print 25 = .ok (.ireturn, 1) := by decide +kernel
theorem dX6_print_26 : decode cX6_print 26 = .ok (.aload_n 0, 1) := by decide +kernel
theorem dX6_print_27 : decode cX6_print 27 = .ok (.invokevirtual 55, 3) := by decide +kernel
theorem dX6_print_30 : decode cX6_print 30 = .ok (.new 124, 3) := by decide +kernel
theorem dX6_print_33 : decode cX6_print 33 = .ok (.dup, 1) := by decide +kernel
theorem dX6_print_34 : decode cX6_print 34 = .ok (.aload_n 2, 1) := by decide +kernel
theorem dX6_print_35 : decode cX6_print 35 = .ok (.getfield 152, 3) := by decide +kernel
theorem dX6_print_38 : decode cX6_print 38 = .ok (.iconst 2, 1) := by decide +kernel
theorem dX6_print_39 : decode cX6_print 39 = .ok (.aload_n 0, 1) := by decide +kernel
theorem dX6_print_40 : decode cX6_print 40 = .ok (.getfield 19, 3) := by decide +kernel
theorem dX6_print_43 : decode cX6_print 43 = .ok (.getfield 166, 3) := by decide +kernel
theorem dX6_print_46 : decode cX6_print 46 = .ok (.aload_n 2, 1) := by decide +kernel
theorem dX6_print_47 : decode cX6_print 47 = .ok (.getfield 169, 3) := by decide +kernel
theorem dX6_print_50 : decode cX6_print 50 = .ok (.invokespecial 131, 3) := by decide +kernel
theorem dX6_print_53 : decode cX6_print 53 = .ok (.astore_n 3, 1) := by decide +kernel
theorem dX6_print_54 : decode cX6_print 54 = .ok (.aload_n 0, 1) := by decide +kernel
theorem dX6_print_55 : decode cX6_print 55 = .ok (.getfield 19, 3) := by decide +kernel
theorem dX6_print_58 : decode cX6_print 58 = .ok (.iload_n 1, 1) := by decide +kernel
theorem dX6_print_59 : decode cX6_print 59 = .ok (.aload_n 3, 1) := by decide +kernel
theorem dX6_print_60 : decode cX6_print 60 = .ok (.invokevirtual 134, 3) := by decide +kernel
theorem dX6_print_63 : decode cX6_print 63 = .ok (.aload_n 3, 1) := by decide +kernel
theorem dX6_print_64 : decode cX6_print 64 = .ok (.invokevirtual 172, 3) := by decide +kernel
theorem dX6_print_67 : decode cX6_print 67 = .ok (.ireturn, 1) := by decide +kernel
def rm_X6_print : Room := { frames := 3, cells := 5, slots := 230, locals := 68 }
set_option maxRecDepth 100000 in
set_option maxHeartbeats 4000000 in
theorem ok_X6_print_0 {E : Ev} {X : Xt} {l0 : Launch} {K : Int32 → Hp → Prop} (hC : Cx E X l0 RX6 cX6_print 4 rm_X6_print) (hQ : CQ E X "print" (some .int) rm_X6_print (KI K)) (a0 : Nat) (a1 : Int32) (h : Hp) (hV : V_X6_print a0 a1 h K) : WW E X h 0 0 0 [some (rv a0), some (.int a1), none, none] [] := by
  unfold V_X6_print at hV
  refine r_aload_n hC dX6_print_0 rfl ?_
  obtain ⟨k9, hV⟩ := hV
  refine r_getR hC dX6_print_1 fl_6_19 rf_6_1 lq_6 k9 ?_
  refine r_iload_n hC dX6_print_4 rfl ?_
  obtain ⟨k9, hV⟩ := hV
  refine r_callV (ci := 5) (As := [.int a1]) hC dX6_print_5 rfl cf_X5_findJob ml_6_138 im_X5_findJob sl_X5_findJob lq_5 rfl rfl k9 rfl ⟨(Nat.le_of_ble_eq_true rfl), (Nat.le_of_ble_eq_true rfl), (Nat.le_of_ble_eq_true rfl), (Nat.le_of_ble_eq_true rfl)⟩ cs0 (Nat.le_of_ble_eq_true rfl) (con_X5_findJob (hR h a0 1) a1 h _ hV) rfl (kR (k := 0) (n := 0) (fun r1 h1 hV => ?_))
  refine r_astore_n (ii := 2) (lo1 := [some (rv a0), some (.int a1), some (rv r1), none]) hC dX6_print_8 rfl (Nat.le_of_ble_eq_true rfl) (pvI rfl) rfl ?_
  refine r_aload_n hC dX6_print_9 rfl ?_
  refine r_ifnonnull (tgt := 15) hC dX6_print_10 (by decide) (fun k9 => ?_) (fun k9 => ?_)
  · replace hV := hV.1 k9
    refine r_aload_n hC dX6_print_15 rfl ?_
    obtain ⟨k9, hV⟩ := hV
    refine r_getI hC dX6_print_16 fl_6_142 rf_1_1 lq_1 k9 ?_
    refine r_iconst (v := 1) hC dX6_print_19 (by decide) ?_
    refine r_icmp_eq (tgt := 26) hC dX6_print_20 (by decide) (fun k9 => ?_) (fun k9 => ?_)
    · replace hV := hV.1 k9
      refine r_aload_n hC dX6_print_26 rfl ?_
      obtain ⟨k9, hV⟩ := hV
      refine r_callV (ci := 6) (As := []) hC dX6_print_27 rfl cf_X6_recordState ml_6_55 im_X6_recordState sl_X6_recordState lq_6 rfl rfl k9 rfl ⟨(Nat.le_of_ble_eq_true rfl), (Nat.le_of_ble_eq_true rfl), (Nat.le_of_ble_eq_true rfl), (Nat.le_of_ble_eq_true rfl)⟩ cs0 (Nat.le_of_ble_eq_true rfl) (con_X6_recordState a0 h1 _ hV) rfl (kV (k := 4) (n := 226) (fun h2 hV => ?_))
      refine r_new (ci := 1) hC dX6_print_30 kl_6_124 ki_1 kz_1 rfl iw_1 ft_1 df_1 lq_1 ⟨(Nat.le_of_ble_eq_true rfl), (Nat.le_of_ble_eq_true rfl)⟩ (fun q1 k9 k8 => nmH (fun h3 k7 => ?_))
      replace hV := hV q1 k9 k8 h3 k7
      refine r_dup hC dX6_print_33 (rv_cat _) ?_
      refine r_aload_n hC dX6_print_34 rfl ?_
      obtain ⟨k9, hV⟩ := hV
      refine r_getR hC dX6_print_35 fl_6_152 rf_1_0 lq_1 k9 ?_
      refine r_iconst (v := 2) hC dX6_print_38 (by decide) ?_
      refine r_aload_n hC dX6_print_39 rfl ?_
      obtain ⟨k9, hV⟩ := hV
      refine r_getR hC dX6_print_40 fl_6_19 rf_6_1 lq_6 k9 ?_
      obtain ⟨k9, hV⟩ := hV
      refine r_getI hC dX6_print_43 fl_6_166 rf_5_6 lq_5 k9 ?_
      refine r_aload_n hC dX6_print_46 rfl ?_
      obtain ⟨k9, hV⟩ := hV
      refine r_getR hC dX6_print_47 fl_6_169 rf_1_3 lq_1 k9 ?_
      obtain ⟨k9, hV⟩ := hV
      refine r_callI (As := [rv (hR h3 r1 0), .int 2, .int (hI h3 (hR h3 a0 1) 6), rv (hR h3 r1 3)]) hC dX6_print_50 rfl cf_X1_init ml_6_131 rfl im_X1_init k9 rfl ⟨(Nat.le_of_ble_eq_true rfl), (Nat.le_of_ble_eq_true rfl), (Nat.le_of_ble_eq_true rfl), (Nat.le_of_ble_eq_true rfl)⟩ (csR cs0) (Nat.le_of_ble_eq_true rfl) (con_X1_init q1 (hR h3 r1 0) 2 (hI h3 (hR h3 a0 1) 6) (hR h3 r1 3) h3 _ hV) rfl (kV (k := 5) (n := 230) (fun h4 hV => ?_))
      refine r_astore_n (ii := 3) (lo1 := [some (rv a0), some (.int a1), some (rv r1), some (rv q1)]) hC dX6_print_53 rfl (Nat.le_of_ble_eq_true rfl) (pvR rfl) rfl ?_
      refine r_aload_n hC dX6_print_54 rfl ?_
      obtain ⟨k9, hV⟩ := hV
      refine r_getR hC dX6_print_55 fl_6_19 rf_6_1 lq_6 k9 ?_
      refine r_iload_n hC dX6_print_58 rfl ?_
      refine r_aload_n hC dX6_print_59 rfl ?_
      obtain ⟨k9, hV⟩ := hV
      refine r_callV (ci := 5) (As := [.int a1, rv q1]) hC dX6_print_60 rfl cf_X5_putJob ml_6_134 im_X5_putJob sl_X5_putJob lq_5 rfl rfl k9 rfl ⟨(Nat.le_of_ble_eq_true rfl), (Nat.le_of_ble_eq_true rfl), (Nat.le_of_ble_eq_true rfl), (Nat.le_of_ble_eq_true rfl)⟩ cs0 (Nat.le_of_ble_eq_true rfl) (con_X5_putJob (hR h4 a0 1) a1 q1 h4 _ hV) rfl (kV (k := 5) (n := 230) (fun h5 hV => ?_))
      refine r_aload_n hC dX6_print_63 rfl ?_
      obtain ⟨k9, hV⟩ := hV
      refine r_callV (ci := 1) (As := []) hC dX6_print_64 rfl cf_X1_daysLate ml_6_172 im_X1_daysLate sl_X1_daysLate lq_1 rfl rfl k9 rfl ⟨(Nat.le_of_ble_eq_true rfl), (Nat.le_of_ble_eq_true rfl), (Nat.le_of_ble_eq_true rfl), (Nat.le_of_ble_eq_true rfl)⟩ cs0 (Nat.le_of_ble_eq_true rfl) (con_X1_daysLate q1 h5 _ hV) rfl (kI (k := 5) (n := 230) (fun r2 h6 hV => ?_))
      exact r_iret hC hQ dX6_print_67 (Nat.le_of_ble_eq_true rfl) (Nat.le_of_ble_eq_true rfl) ⟨_, rfl, hV⟩
    · replace hV := hV.2 k9
      refine r_bipush (v := (-4)) hC dX6_print_23 (by decide) ?_
      exact r_iret hC hQ dX6_print_25 (Nat.le_of_ble_eq_true rfl) (Nat.le_of_ble_eq_true rfl) ⟨_, rfl, hV⟩
  · replace hV := hV.2 k9
    refine r_iconst (v := (-1)) hC dX6_print_13 (by decide) ?_
    exact r_iret hC hQ dX6_print_14 (Nat.le_of_ble_eq_true rfl) (Nat.le_of_ble_eq_true rfl) ⟨_, rfl, hV⟩
set_option maxRecDepth 100000 in
set_option maxHeartbeats 4000000 in
theorem con_X6_print {E : Ev} {l0 : Launch} (a0 : Nat) (a1 : Int32) (h : Hp) (K : Int32 → Hp → Prop) (hV : V_X6_print a0 a1 h K) : Con E l0 yX6_print cX6_print 4 (some .int) rm_X6_print [rv a0, .int a1] h (KI K) := by
  refine Con.of (by decide +kernel) (cat_R (cat_I cat_nil)) (Nat.le_of_ble_eq_true rfl) (fun X hC hQ => ?_)
  refine r_sub (lo1 := [some (rv a0), some (.int a1), none, none]) (show lsub [some (rv a0), some (.int a1), none, none] _ from ⟨Or.inr rfl, ⟨Or.inr rfl, ⟨Or.inr rfl, ⟨Or.inr rfl, trivial⟩⟩⟩⟩) ?_
  exact ok_X6_print_0 hC hQ a0 a1 h hV
theorem dX6_restore_0 : decode cX6_restore 0 = .ok (.aload_n 0, 1) := by decide +kernel
theorem dX6_restore_1 : decode cX6_restore 1 = .ok (.getfield 31, 3) := by decide +kernel
theorem dX6_restore_4 : decode cX6_restore 4 = .ok (.ifnonnull 6, 3) := by decide +kernel
theorem dX6_restore_7 : decode cX6_restore 7 = .ok (.bipush (-5), 2) := by decide +kernel
theorem dX6_restore_9 : decode cX6_restore 9 = .ok (.ireturn, 1) := by decide +kernel
theorem dX6_restore_10 : decode cX6_restore 10 = .ok (.aload_n 0, 1) := by decide +kernel
theorem dX6_restore_11 : decode cX6_restore 11 = .ok (.invokevirtual 55, 3) := by decide +kernel
theorem dX6_restore_14 : decode cX6_restore 14 = .ok (.aload_n 0, 1) := by decide +kernel
theorem dX6_restore_15 : decode cX6_restore 15 = .ok (.getfield 19, 3) := by decide +kernel
theorem dX6_restore_18 : decode cX6_restore 18 = .ok (.aload_n 0, 1) := by decide +kernel
theorem dX6_restore_19 : decode cX6_restore 19 = .ok (.getfield 31, 3) := by decide +kernel
theorem dX6_restore_22 : decode cX6_restore 22 = .ok (.invokevirtual 189, 3) := by decide +kernel
theorem dX6_restore_25 : decode cX6_restore 25 = .ok (.aload_n 0, 1) := by decide +kernel
theorem dX6_restore_26 : decode cX6_restore 26 = .ok (.getfield 19, 3) := by decide +kernel
theorem dX6_restore_29 : decode cX6_restore 29 = .ok (.getfield 121, 3) := by decide +kernel
theorem dX6_restore_32 : decode cX6_restore 32 = .ok (.ireturn, 1) := by decide +kernel
def rm_X6_restore : Room := { frames := 3, cells := 4, slots := 226, locals := 68 }
set_option maxRecDepth 100000 in
set_option maxHeartbeats 4000000 in
theorem ok_X6_restore_0 {E : Ev} {X : Xt} {l0 : Launch} {K : Int32 → Hp → Prop} (hC : Cx E X l0 RX6 cX6_restore 1 rm_X6_restore) (hQ : CQ E X "restore" (some .int) rm_X6_restore (KI K)) (a0 : Nat) (h : Hp) (hV : V_X6_restore a0 h K) : WW E X h 0 0 0 [some (rv a0)] [] := by
  unfold V_X6_restore at hV
  refine r_aload_n hC dX6_restore_0 rfl ?_
  obtain ⟨k9, hV⟩ := hV
  refine r_getR hC dX6_restore_1 fl_6_31 rf_6_4 lq_6 k9 ?_
  refine r_ifnonnull (tgt := 10) hC dX6_restore_4 (by decide) (fun k9 => ?_) (fun k9 => ?_)
  · replace hV := hV.1 k9
    refine r_aload_n hC dX6_restore_10 rfl ?_
    obtain ⟨k9, hV⟩ := hV
    refine r_callV (ci := 6) (As := []) hC dX6_restore_11 rfl cf_X6_recordState ml_6_55 im_X6_recordState sl_X6_recordState lq_6 rfl rfl k9 rfl ⟨(Nat.le_of_ble_eq_true rfl), (Nat.le_of_ble_eq_true rfl), (Nat.le_of_ble_eq_true rfl), (Nat.le_of_ble_eq_true rfl)⟩ cs0 (Nat.le_of_ble_eq_true rfl) (con_X6_recordState a0 h _ hV) rfl (kV (k := 4) (n := 226) (fun h1 hV => ?_))
    refine r_aload_n hC dX6_restore_14 rfl ?_
    obtain ⟨k9, hV⟩ := hV
    refine r_getR hC dX6_restore_15 fl_6_19 rf_6_1 lq_6 k9 ?_
    refine r_aload_n hC dX6_restore_18 rfl ?_
    obtain ⟨k9, hV⟩ := hV
    refine r_getR hC dX6_restore_19 fl_6_31 rf_6_4 lq_6 k9 ?_
    obtain ⟨k9, hV⟩ := hV
    refine r_callV (ci := 5) (As := [rv (hR h1 a0 4)]) hC dX6_restore_22 rfl cf_X5_copyFrom ml_6_189 im_X5_copyFrom sl_X5_copyFrom lq_5 rfl rfl k9 rfl ⟨(Nat.le_of_ble_eq_true rfl), (Nat.le_of_ble_eq_true rfl), (Nat.le_of_ble_eq_true rfl), (Nat.le_of_ble_eq_true rfl)⟩ cs0 (Nat.le_of_ble_eq_true rfl) (con_X5_copyFrom (hR h1 a0 1) (hR h1 a0 4) h1 _ hV) rfl (kV (k := 4) (n := 226) (fun h2 hV => ?_))
    refine r_aload_n hC dX6_restore_25 rfl ?_
    obtain ⟨k9, hV⟩ := hV
    refine r_getR hC dX6_restore_26 fl_6_19 rf_6_1 lq_6 k9 ?_
    obtain ⟨k9, hV⟩ := hV
    refine r_getI hC dX6_restore_29 fl_6_121 rf_5_4 lq_5 k9 ?_
    exact r_iret hC hQ dX6_restore_32 (Nat.le_of_ble_eq_true rfl) (Nat.le_of_ble_eq_true rfl) ⟨_, rfl, hV⟩
  · replace hV := hV.2 k9
    refine r_bipush (v := (-5)) hC dX6_restore_7 (by decide) ?_
    exact r_iret hC hQ dX6_restore_9 (Nat.le_of_ble_eq_true rfl) (Nat.le_of_ble_eq_true rfl) ⟨_, rfl, hV⟩
set_option maxRecDepth 100000 in
set_option maxHeartbeats 4000000 in
theorem con_X6_restore {E : Ev} {l0 : Launch} (a0 : Nat) (h : Hp) (K : Int32 → Hp → Prop) (hV : V_X6_restore a0 h K) : Con E l0 yX6_restore cX6_restore 1 (some .int) rm_X6_restore [rv a0] h (KI K) := by
  refine Con.of (by decide +kernel) (cat_R cat_nil) (Nat.le_of_ble_eq_true rfl) (fun X hC hQ => ?_)
  refine r_sub (lo1 := [some (rv a0)]) (show lsub [some (rv a0)] _ from ⟨Or.inr rfl, trivial⟩) ?_
  exact ok_X6_restore_0 hC hQ a0 h hV
theorem dX6_takePieces_0 : decode cX6_takePieces 0 = .ok (.aload_n 0, 1) := by decide +kernel
theorem dX6_takePieces_1 : decode cX6_takePieces 1 = .ok (.getfield 19, 3) := by decide +kernel
theorem dX6_takePieces_4 : decode cX6_takePieces 4 = .ok (.iload_n 2, 1) := by decide +kernel
theorem dX6_takePieces_5 : decode cX6_takePieces 5 = .ok (.iload_n 3, 1) := by decide +kernel
theorem dX6_takePieces_6 : decode cX6_takePieces 6 = .ok (.invokevirtual 75, 3) := by decide +kernel
theorem dX6_takePieces_9 : decode cX6_takePieces 9 = .ok (.iload 4, 2) := by decide +kernel
theorem dX6_takePieces_11 : decode cX6_takePieces 11 = .ok (.invokestatic 290, 3) := by decide +kernel
theorem dX6_takePieces_14 : decode cX6_takePieces 14 = .ok (.istore 5, 2) := by decide +kernel
theorem dX6_takePieces_16 : decode cX6_takePieces 16 = .ok (.iload_n 2, 1) := by decide +kernel
theorem dX6_takePieces_17 : decode cX6_takePieces 17 = .ok (.iload_n 3, 1) := by decide +kernel
theorem dX6_takePieces_18 : decode cX6_takePieces 18 = .ok (.invokestatic 293, 3) := by decide +kernel
theorem dX6_takePieces_21 : decode cX6_takePieces 21 = .ok (.istore 6, 2) := by decide +kernel
theorem dX6_takePieces_23 : decode cX6_takePieces 23 = .ok (.iload 6, 2) := by decide +kernel
theorem dX6_takePieces_25 : decode cX6_takePieces 25 = .ok (.ifCond .lt 10, 3) := by decide +kernel
theorem dX6_takePieces_28 : decode cX6_takePieces 28 = .ok (.iload 6, 2) := by decide +kernel
theorem dX6_takePieces_30 : decode cX6_takePieces 30 = .ok (.aload_n 1, 1) := by decide +kernel
theorem dX6_takePieces_31 : decode cX6_takePieces 31 = .ok (.arraylength, 1) := by decide +kernel
theorem dX6_takePieces_32 : decode cX6_takePieces 32 = .ok (.if_icmp .lt 5, 3) := by decide +kernel
theorem dX6_takePieces_35 : decode cX6_takePieces 35 = .ok (.iconst 0, 1) := by decide +kernel
theorem dX6_takePieces_36 : decode cX6_takePieces 36 = .ok (.ireturn, 1) := by decide +kernel
theorem dX6_takePieces_37 : decode cX6_takePieces 37 = .ok (.aload_n 1, 1) := by decide +kernel
theorem dX6_takePieces_38 : decode cX6_takePieces 38 = .ok (.iload 6, 2) := by decide +kernel
theorem dX6_takePieces_40 : decode cX6_takePieces 40 = .ok (.dup2, 1) := by decide +kernel
theorem dX6_takePieces_41 : decode cX6_takePieces 41 = .ok (.iaload, 1) := by decide +kernel
theorem dX6_takePieces_42 : decode cX6_takePieces 42 = .ok (.iload 5, 2) := by decide +kernel
theorem dX6_takePieces_44 : decode cX6_takePieces 44 = .ok (.iadd, 1) := by decide +kernel
theorem dX6_takePieces_45 : decode cX6_takePieces 45 = .ok (.iastore, 1) := by decide +kernel
theorem dX6_takePieces_46 : decode cX6_takePieces 46 = .ok (.aload_n 0, 1) := by decide +kernel
theorem dX6_takePieces_47 : decode cX6_takePieces 47 = .ok (.getfield 19, 3) := by decide +kernel
theorem dX6_takePieces_50 : decode cX6_takePieces 50 = .ok (.iload_n 2, 1) := by decide +kernel
theorem dX6_takePieces_51 : decode cX6_takePieces 51 = .ok (.iload_n 3, 1) := by decide +kernel
theorem dX6_takePieces_52 : decode cX6_takePieces 52 = .ok (.iload 5, 2) := by decide +kernel
theorem dX6_takePieces_54 : decode cX6_takePieces 54 = .ok (.ineg, 1) := by decide +kernel
theorem dX6_takePieces_55 : decode cX6_takePieces 55 = .ok (.invokevirtual 79, 3) := by decide +kernel
theorem dX6_takePieces_58 : decode cX6_takePieces 58 = .ok (.iload 5, 2) := by decide +kernel
theorem dX6_takePieces_60 : decode cX6_takePieces 60 = .ok (.ireturn, 1) := by decide +kernel
def rm_X6_takePieces : Room := { frames := 2, cells := 0, slots := 0, locals := 45 }
set_option maxRecDepth 100000 in
set_option maxHeartbeats 4000000 in
theorem ok_X6_takePieces_35 {E : Ev} {X : Xt} {l0 : Launch} {K : Int32 → Hp → Prop} (hC : Cx E X l0 RX6 cX6_takePieces 7 rm_X6_takePieces) (hQ : CQ E X "takePieces" (some .int) rm_X6_takePieces (KI K)) (h : Hp) (hV : V_X6_takePieces_35 K  h) : WW E X h 0 0 35 [none, none, none, none, none, none, none] [] := by
  unfold V_X6_takePieces_35 at hV
  refine r_iconst (v := 0) hC dX6_takePieces_35 (by decide) ?_
  exact r_iret hC hQ dX6_takePieces_36 (Nat.le_of_ble_eq_true rfl) (Nat.le_of_ble_eq_true rfl) ⟨_, rfl, hV⟩
set_option maxRecDepth 100000 in
set_option maxHeartbeats 4000000 in
theorem ok_X6_takePieces_0 {E : Ev} {X : Xt} {l0 : Launch} {K : Int32 → Hp → Prop} (hC : Cx E X l0 RX6 cX6_takePieces 7 rm_X6_takePieces) (hQ : CQ E X "takePieces" (some .int) rm_X6_takePieces (KI K)) (a0 : Nat) (a1 : Nat) (a2 : Int32) (a3 : Int32) (a4 : Int32) (h : Hp) (hV : V_X6_takePieces a0 a1 a2 a3 a4 h K) : WW E X h 0 0 0 [some (rv a0), some (rv a1), some (.int a2), some (.int a3), some (.int a4), none, none] [] := by
  unfold V_X6_takePieces at hV
  refine r_aload_n hC dX6_takePieces_0 rfl ?_
  obtain ⟨k9, hV⟩ := hV
  refine r_getR hC dX6_takePieces_1 fl_6_19 rf_6_1 lq_6 k9 ?_
  refine r_iload_n hC dX6_takePieces_4 rfl ?_
  refine r_iload_n hC dX6_takePieces_5 rfl ?_
  obtain ⟨k9, hV⟩ := hV
  refine r_callV (ci := 5) (As := [.int a2, .int a3]) hC dX6_takePieces_6 rfl cf_X5_held ml_6_75 im_X5_held sl_X5_held lq_5 rfl rfl k9 rfl ⟨(Nat.le_of_ble_eq_true rfl), (Nat.le_of_ble_eq_true rfl), (Nat.le_of_ble_eq_true rfl), (Nat.le_of_ble_eq_true rfl)⟩ cs0 (Nat.le_of_ble_eq_true rfl) (con_X5_held (hR h a0 1) a2 a3 h _ hV) rfl (kI (k := 0) (n := 0) (fun r1 h1 hV => ?_))
  refine r_iload hC dX6_takePieces_9 rfl ?_
  refine r_min hC dX6_takePieces_11 rfl ml_6_290 mmin_s mth_i mmin_c cs0 ⟨Nat.le_of_ble_eq_true rfl, Nat.le_of_ble_eq_true rfl, Nat.le_of_ble_eq_true rfl, Nat.le_of_ble_eq_true rfl⟩ ?_
  refine r_istore (lo1 := [some (rv a0), some (rv a1), some (.int a2), some (.int a3), some (.int a4), some (.int (if a4 < r1 then a4 else r1)), none]) hC dX6_takePieces_14 (Nat.le_of_ble_eq_true rfl) (pvI rfl) rfl ?_
  refine r_iload_n hC dX6_takePieces_16 rfl ?_
  refine r_iload_n hC dX6_takePieces_17 rfl ?_
  refine r_callS (As := [.int a2, .int a3]) hC dX6_takePieces_18 rfl cf_X6_slotOf ml_6_293 st_X6_slotOf rfl ⟨(Nat.le_of_ble_eq_true rfl), (Nat.le_of_ble_eq_true rfl), (Nat.le_of_ble_eq_true rfl), (Nat.le_of_ble_eq_true rfl)⟩ cs0 (Nat.le_of_ble_eq_true rfl) (con_X6_slotOf a2 a3 h1 _ hV) rfl (kI (k := 0) (n := 0) (fun r2 h2 hV => ?_))
  refine r_istore (lo1 := [some (rv a0), some (rv a1), some (.int a2), some (.int a3), some (.int a4), some (.int (if a4 < r1 then a4 else r1)), some (.int r2)]) hC dX6_takePieces_21 (Nat.le_of_ble_eq_true rfl) (pvI rfl) rfl ?_
  refine r_iload hC dX6_takePieces_23 rfl ?_
  refine r_if_lt (tgt := 35) hC dX6_takePieces_25 (by decide) (fun k9 => ?_) (fun k9 => ?_)
  · replace hV := hV.1 k9
    refine r_sub (lo1 := [none, none, none, none, none, none, none]) ⟨Or.inl rfl, ⟨Or.inl rfl, ⟨Or.inl rfl, ⟨Or.inl rfl, ⟨Or.inl rfl, ⟨Or.inl rfl, ⟨Or.inl rfl, trivial⟩⟩⟩⟩⟩⟩⟩ ?_
    exact ok_X6_takePieces_35 hC hQ  h2 hV
  · replace hV := hV.2 k9
    refine r_iload hC dX6_takePieces_28 rfl ?_
    refine r_aload_n hC dX6_takePieces_30 rfl ?_
    obtain ⟨k9, hV⟩ := hV
    refine r_alen (kd := 20) hC dX6_takePieces_31 (by decide) k9 ?_
    refine r_icmp_lt (tgt := 37) hC dX6_takePieces_32 (by decide) (fun k9 => ?_) (fun k9 => ?_)
    · replace hV := hV.1 k9
      refine r_aload_n hC dX6_takePieces_37 rfl ?_
      refine r_iload hC dX6_takePieces_38 rfl ?_
      refine r_dup2 hC dX6_takePieces_40 rfl (rv_cat _) ?_
      obtain ⟨k9, k8, hV⟩ := hV
      refine r_iald (kd := 20) hC dX6_takePieces_41 (by decide) rfl k9 k8 ?_
      refine r_iload hC dX6_takePieces_42 rfl ?_
      refine r_iadd hC dX6_takePieces_44 ?_
      obtain ⟨k9, k8, hV⟩ := hV
      refine r_iast (kd := 20) hC dX6_takePieces_45 (by decide) rfl k9 k8 (nmH (fun h3 k9 => ?_))
      replace hV := hV h3 k9
      refine r_aload_n hC dX6_takePieces_46 rfl ?_
      obtain ⟨k9, hV⟩ := hV
      refine r_getR hC dX6_takePieces_47 fl_6_19 rf_6_1 lq_6 k9 ?_
      refine r_iload_n hC dX6_takePieces_50 rfl ?_
      refine r_iload_n hC dX6_takePieces_51 rfl ?_
      refine r_iload hC dX6_takePieces_52 rfl ?_
      refine r_ineg hC dX6_takePieces_54 ?_
      obtain ⟨k9, hV⟩ := hV
      refine r_callV (ci := 5) (As := [.int a2, .int a3, .int (-(if a4 < r1 then a4 else r1))]) hC dX6_takePieces_55 rfl cf_X5_put ml_6_79 im_X5_put sl_X5_put lq_5 rfl rfl k9 rfl ⟨(Nat.le_of_ble_eq_true rfl), (Nat.le_of_ble_eq_true rfl), (Nat.le_of_ble_eq_true rfl), (Nat.le_of_ble_eq_true rfl)⟩ cs0 (Nat.le_of_ble_eq_true rfl) (con_X5_put (hR h3 a0 1) a2 a3 (-(if a4 < r1 then a4 else r1)) h3 _ hV) rfl (kV (k := 0) (n := 0) (fun h4 hV => ?_))
      refine r_iload hC dX6_takePieces_58 rfl ?_
      exact r_iret hC hQ dX6_takePieces_60 (Nat.le_of_ble_eq_true rfl) (Nat.le_of_ble_eq_true rfl) ⟨_, rfl, hV⟩
    · replace hV := hV.2 k9
      refine r_sub (lo1 := [none, none, none, none, none, none, none]) ⟨Or.inl rfl, ⟨Or.inl rfl, ⟨Or.inl rfl, ⟨Or.inl rfl, ⟨Or.inl rfl, ⟨Or.inl rfl, ⟨Or.inl rfl, trivial⟩⟩⟩⟩⟩⟩⟩ ?_
      exact ok_X6_takePieces_35 hC hQ  h2 hV
set_option maxRecDepth 100000 in
set_option maxHeartbeats 4000000 in
theorem con_X6_takePieces {E : Ev} {l0 : Launch} (a0 : Nat) (a1 : Nat) (a2 : Int32) (a3 : Int32) (a4 : Int32) (h : Hp) (K : Int32 → Hp → Prop) (hV : V_X6_takePieces a0 a1 a2 a3 a4 h K) : Con E l0 yX6_takePieces cX6_takePieces 7 (some .int) rm_X6_takePieces [rv a0, rv a1, .int a2, .int a3, .int a4] h (KI K) := by
  refine Con.of (by decide +kernel) (cat_R (cat_R (cat_I (cat_I (cat_I cat_nil))))) (Nat.le_of_ble_eq_true rfl) (fun X hC hQ => ?_)
  refine r_sub (lo1 := [some (rv a0), some (rv a1), some (.int a2), some (.int a3), some (.int a4), none, none]) (show lsub [some (rv a0), some (rv a1), some (.int a2), some (.int a3), some (.int a4), none, none] _ from ⟨Or.inr rfl, ⟨Or.inr rfl, ⟨Or.inr rfl, ⟨Or.inr rfl, ⟨Or.inr rfl, ⟨Or.inr rfl, ⟨Or.inr rfl, trivial⟩⟩⟩⟩⟩⟩⟩) ?_
  exact ok_X6_takePieces_0 hC hQ a0 a1 a2 a3 a4 h hV
theorem dX6_takeNeeded_0 : decode cX6_takeNeeded 0 = .ok (.sipush 174, 3) := by decide +kernel
theorem dX6_takeNeeded_3 : decode cX6_takeNeeded 3 = .ok (.newarray .int, 2) := by decide +kernel
theorem dX6_takeNeeded_5 : decode cX6_takeNeeded 5 = .ok (.astore_n 2, 1) := by decide +kernel
theorem dX6_takeNeeded_6 : decode cX6_takeNeeded 6 = .ok (.iconst 0, 1) := by decide +kernel
theorem dX6_takeNeeded_7 : decode cX6_takeNeeded 7 = .ok (.istore_n 3, 1) := by decide +kernel
theorem dX6_takeNeeded_8 : decode cX6_takeNeeded 8 = .ok (.iload_n 3, 1) := by decide +kernel
theorem dX6_takeNeeded_9 : decode cX6_takeNeeded 9 = .ok (.bipush 29, 2) := by decide +kernel
theorem dX6_takeNeeded_11 : decode cX6_takeNeeded 11 = .ok (.if_icmp .ge 68, 3) := by decide +kernel
theorem dX6_takeNeeded_14 : decode cX6_takeNeeded 14 = .ok (.aload_n 0, 1) := by decide +kernel
theorem dX6_takeNeeded_15 : decode cX6_takeNeeded 15 = .ok (.getfield 41, 3) := by decide +kernel
theorem dX6_takeNeeded_18 : decode cX6_takeNeeded 18 = .ok (.iload_n 3, 1) := by decide +kernel
theorem dX6_takeNeeded_19 : decode cX6_takeNeeded 19 = .ok (.iaload, 1) := by decide +kernel
theorem dX6_takeNeeded_20 : decode cX6_takeNeeded 20 = .ok (.aload_n 0, 1) := by decide +kernel
theorem dX6_takeNeeded_21 : decode cX6_takeNeeded 21 = .ok (.aload_n 2, 1) := by decide +kernel
theorem dX6_takeNeeded_22 : decode cX6_takeNeeded 22 = .ok (.iload_n 1, 1) := by decide +kernel
theorem dX6_takeNeeded_23 : decode cX6_takeNeeded 23 = .ok (.iload_n 3, 1) := by decide +kernel
theorem dX6_takeNeeded_24 : decode cX6_takeNeeded 24 = .ok (.aload_n 0, 1) := by decide +kernel
theorem dX6_takeNeeded_25 : decode cX6_takeNeeded 25 = .ok (.getfield 41, 3) := by decide +kernel
theorem dX6_takeNeeded_28 : decode cX6_takeNeeded 28 = .ok (.iload_n 3, 1) := by decide +kernel
theorem dX6_takeNeeded_29 : decode cX6_takeNeeded 29 = .ok (.iaload, 1) := by decide +kernel
theorem dX6_takeNeeded_30 : decode cX6_takeNeeded 30 = .ok (.invokevirtual 286, 3) := by decide +kernel
theorem dX6_takeNeeded_33 : decode cX6_takeNeeded 33 = .ok (.isub, 1) := by decide +kernel
theorem dX6_takeNeeded_34 : decode cX6_takeNeeded 34 = .ok (.istore 4, 2) := by decide +kernel
theorem dX6_takeNeeded_36 : decode cX6_takeNeeded 36 = .ok (.iconst 0, 1) := by decide +kernel
theorem dX6_takeNeeded_37 : decode cX6_takeNeeded 37 = .ok (.istore 5, 2) := by decide +kernel
theorem dX6_takeNeeded_39 : decode cX6_takeNeeded 39 = .ok (.iload 5, 2) := by decide +kernel
theorem dX6_takeNeeded_41 : decode cX6_takeNeeded 41 = .ok (.bipush 6, 2) := by decide +kernel
theorem dX6_takeNeeded_43 : decode cX6_takeNeeded 43 = .ok (.if_icmp .ge 30, 3) := by decide +kernel
theorem dX6_takeNeeded_46 : decode cX6_takeNeeded 46 = .ok (.iload 5, 2) := by decide +kernel
theorem dX6_takeNeeded_48 : decode cX6_takeNeeded 48 = .ok (.iload_n 1, 1) := by decide +kernel
theorem dX6_takeNeeded_49 : decode cX6_takeNeeded 49 = .ok (.if_icmp .eq 18, 3) := by decide +kernel
theorem dX6_takeNeeded_52 : decode cX6_takeNeeded 52 = .ok (.iload 4, 2) := by decide +kernel
theorem dX6_takeNeeded_54 : decode cX6_takeNeeded 54 = .ok (.aload_n 0, 1) := by decide +kernel
theorem dX6_takeNeeded_55 : decode cX6_takeNeeded 55 = .ok (.aload_n 2, 1) := by decide +kernel
theorem dX6_takeNeeded_56 : decode cX6_takeNeeded 56 = .ok (.iload 5, 2) := by decide +kernel
theorem dX6_takeNeeded_58 : decode cX6_takeNeeded 58 = .ok (.iload_n 3, 1) := by decide +kernel
theorem dX6_takeNeeded_59 : decode cX6_takeNeeded 59 = .ok (.iload 4, 2) := by decide +kernel
theorem dX6_takeNeeded_61 : decode cX6_takeNeeded 61 = .ok (.invokevirtual 286, 3) := by decide +kernel
theorem dX6_takeNeeded_64 : decode cX6_takeNeeded 64 = .ok (.isub, 1) := by decide +kernel
theorem dX6_takeNeeded_65 : decode cX6_takeNeeded 65 = .ok (.istore 4, 2) := by decide +kernel
theorem dX6_takeNeeded_67 : decode cX6_takeNeeded 67 = .ok (.iinc 5 1, 3) := by decide +kernel
theorem dX6_takeNeeded_70 : decode cX6_takeNeeded 70 = .ok (.goto (-31), 3) := by decide +kernel
theorem dX6_takeNeeded_73 : decode cX6_takeNeeded 73 = .ok (.iinc 3 1, 3) := by decide +kernel
theorem dX6_takeNeeded_76 : decode cX6_takeNeeded 76 = .ok (.goto (-68), 3) := by decide +kernel
theorem dX6_takeNeeded_79 : decode cX6_takeNeeded 79 = .ok (.aload_n 2, 1) := by decide +kernel
theorem dX6_takeNeeded_80 : decode cX6_takeNeeded 80 = .ok (.areturn, 1) := by decide +kernel
def rm_X6_takeNeeded : Room := { frames := 3, cells := 1, slots := 174, locals := 71 }
set_option maxRecDepth 100000 in
set_option maxHeartbeats 4000000 in
theorem ok_X6_takeNeeded_67 {E : Ev} {X : Xt} {l0 : Launch} {K : Nat → Hp → Prop} {C8 : Nat → Int32 → Nat → Int32 → Hp → Prop} {C39 : Nat → Int32 → Nat → Int32 → Int32 → Int32 → Hp → Prop} (hC : Cx E X l0 RX6 cX6_takeNeeded 6 rm_X6_takeNeeded) (hQ : CQ E X "takeNeeded" (some (.array .int)) rm_X6_takeNeeded (KR K)) (hC8 : ∀ (a0 : Nat) (a1 : Int32) (a2 : Nat) (a3 : Int32) (h : Hp), C8 a0 a1 a2 a3 h → WW E X h 1 174 8 [some (rv a0), some (.int a1), some (rv a2), some (.int a3), none, none] []) (hC39 : ∀ (a0 : Nat) (a1 : Int32) (a2 : Nat) (a3 : Int32) (a4 : Int32) (a5 : Int32) (h : Hp), C39 a0 a1 a2 a3 a4 a5 h → WW E X h 1 174 39 [some (rv a0), some (.int a1), some (rv a2), some (.int a3), some (.int a4), some (.int a5)] []) (a0 : Nat) (a1 : Int32) (a2 : Nat) (a3 : Int32) (a4 : Int32) (a5 : Int32) (h : Hp) (hV : V_X6_takeNeeded_67 K C8 C39 a0 a1 a2 a3 a4 a5 h) : WW E X h 1 174 67 [some (rv a0), some (.int a1), some (rv a2), some (.int a3), some (.int a4), some (.int a5)] [] := by
  unfold V_X6_takeNeeded_67 at hV
  refine r_iinc (v := 1) (lo1 := [some (rv a0), some (.int a1), some (rv a2), some (.int a3), some (.int a4), some (.int (a5 + 1))]) hC dX6_takeNeeded_67 rfl (by decide) (pvI rfl) rfl ?_
  refine r_goto (tgt := 39) hC dX6_takeNeeded_70 (by decide) ?_
  exact hC39 a0 a1 a2 a3 a4 (a5 + 1) h hV
set_option maxRecDepth 100000 in
set_option maxHeartbeats 4000000 in
theorem ok_X6_takeNeeded_39 {E : Ev} {X : Xt} {l0 : Launch} {K : Nat → Hp → Prop} {C8 : Nat → Int32 → Nat → Int32 → Hp → Prop} (hC : Cx E X l0 RX6 cX6_takeNeeded 6 rm_X6_takeNeeded) (hQ : CQ E X "takeNeeded" (some (.array .int)) rm_X6_takeNeeded (KR K)) (hC8 : ∀ (a0 : Nat) (a1 : Int32) (a2 : Nat) (a3 : Int32) (h : Hp), C8 a0 a1 a2 a3 h → WW E X h 1 174 8 [some (rv a0), some (.int a1), some (rv a2), some (.int a3), none, none] []) : ∀ (n : Nat) (a0 : Nat) (a1 : Int32) (a2 : Nat) (a3 : Int32) (a4 : Int32) (a5 : Int32) (h : Hp), V_X6_takeNeeded_39 K C8 n a0 a1 a2 a3 a4 a5 h → WW E X h 1 174 39 [some (rv a0), some (.int a1), some (rv a2), some (.int a3), some (.int a4), some (.int a5)] [] := by
  intro n
  induction n with
  | zero => intro a0 a1 a2 a3 a4 a5 h hV; exact hV.elim
  | succ n ih =>
    intro a0 a1 a2 a3 a4 a5 h hV
    unfold V_X6_takeNeeded_39 at hV
    refine r_iload hC dX6_takeNeeded_39 rfl ?_
    refine r_bipush (v := 6) hC dX6_takeNeeded_41 (by decide) ?_
    refine r_icmp_ge (tgt := 73) hC dX6_takeNeeded_43 (by decide) (fun k9 => ?_) (fun k9 => ?_)
    · replace hV := hV.1 k9
      refine r_iinc (v := 1) (lo1 := [some (rv a0), some (.int a1), some (rv a2), some (.int (a3 + 1)), some (.int a4), some (.int a5)]) hC dX6_takeNeeded_73 rfl (by decide) (pvR rfl) rfl ?_
      refine r_goto (tgt := 8) hC dX6_takeNeeded_76 (by decide) ?_
      refine r_sub (lo1 := [some (rv a0), some (.int a1), some (rv a2), some (.int (a3 + 1)), none, none]) ⟨Or.inr rfl, ⟨Or.inr rfl, ⟨Or.inr rfl, ⟨Or.inr rfl, ⟨Or.inl rfl, ⟨Or.inl rfl, trivial⟩⟩⟩⟩⟩⟩ ?_
      exact hC8 a0 a1 a2 (a3 + 1) h hV
    · replace hV := hV.2 k9
      refine r_iload hC dX6_takeNeeded_46 rfl ?_
      refine r_iload_n hC dX6_takeNeeded_48 rfl ?_
      refine r_icmp_eq (tgt := 67) hC dX6_takeNeeded_49 (by decide) (fun k9 => ?_) (fun k9 => ?_)
      · replace hV := hV.1 k9
        exact ok_X6_takeNeeded_67 hC hQ hC8 ih a0 a1 a2 a3 a4 a5 h hV
      · replace hV := hV.2 k9
        refine r_iload hC dX6_takeNeeded_52 rfl ?_
        refine r_aload_n hC dX6_takeNeeded_54 rfl ?_
        refine r_aload_n hC dX6_takeNeeded_55 rfl ?_
        refine r_iload hC dX6_takeNeeded_56 rfl ?_
        refine r_iload_n hC dX6_takeNeeded_58 rfl ?_
        refine r_iload hC dX6_takeNeeded_59 rfl ?_
        obtain ⟨k9, hV⟩ := hV
        refine r_callV (ci := 6) (As := [rv a2, .int a5, .int a3, .int a4]) hC dX6_takeNeeded_61 rfl cf_X6_takePieces ml_6_286 im_X6_takePieces sl_X6_takePieces lq_6 rfl rfl k9 rfl ⟨(Nat.le_of_ble_eq_true rfl), (Nat.le_of_ble_eq_true rfl), (Nat.le_of_ble_eq_true rfl), (Nat.le_of_ble_eq_true rfl)⟩ (csI cs0) (Nat.le_of_ble_eq_true rfl) (con_X6_takePieces a0 a2 a5 a3 a4 h _ hV) rfl (kI (k := 1) (n := 174) (fun r1 h1 hV => ?_))
        refine r_isub hC dX6_takeNeeded_64 ?_
        refine r_istore (lo1 := [some (rv a0), some (.int a1), some (rv a2), some (.int a3), some (.int (a4 - r1)), some (.int a5)]) hC dX6_takeNeeded_65 (Nat.le_of_ble_eq_true rfl) (pvI rfl) rfl ?_
        exact ok_X6_takeNeeded_67 hC hQ hC8 ih a0 a1 a2 a3 (a4 - r1) a5 h1 hV
set_option maxRecDepth 100000 in
set_option maxHeartbeats 4000000 in
theorem ok_X6_takeNeeded_8 {E : Ev} {X : Xt} {l0 : Launch} {K : Nat → Hp → Prop} (hC : Cx E X l0 RX6 cX6_takeNeeded 6 rm_X6_takeNeeded) (hQ : CQ E X "takeNeeded" (some (.array .int)) rm_X6_takeNeeded (KR K)) : ∀ (n : Nat) (a0 : Nat) (a1 : Int32) (a2 : Nat) (a3 : Int32) (h : Hp), V_X6_takeNeeded_8 K n a0 a1 a2 a3 h → WW E X h 1 174 8 [some (rv a0), some (.int a1), some (rv a2), some (.int a3), none, none] [] := by
  intro n
  induction n with
  | zero => intro a0 a1 a2 a3 h hV; exact hV.elim
  | succ n ih =>
    intro a0 a1 a2 a3 h hV
    unfold V_X6_takeNeeded_8 at hV
    refine r_iload_n hC dX6_takeNeeded_8 rfl ?_
    refine r_bipush (v := 29) hC dX6_takeNeeded_9 (by decide) ?_
    refine r_icmp_ge (tgt := 79) hC dX6_takeNeeded_11 (by decide) (fun k9 => ?_) (fun k9 => ?_)
    · replace hV := hV.1 k9
      refine r_aload_n hC dX6_takeNeeded_79 rfl ?_
      exact r_aret hC hQ (Or.inr ⟨_, rfl⟩) dX6_takeNeeded_80 (Nat.le_of_ble_eq_true rfl) (Nat.le_of_ble_eq_true rfl) ⟨_, rfl, hV⟩
    · replace hV := hV.2 k9
      refine r_aload_n hC dX6_takeNeeded_14 rfl ?_
      obtain ⟨k9, hV⟩ := hV
      refine r_getR hC dX6_takeNeeded_15 fl_6_41 rf_6_6 lq_6 k9 ?_
      refine r_iload_n hC dX6_takeNeeded_18 rfl ?_
      obtain ⟨k9, k8, hV⟩ := hV
      refine r_iald (kd := 37) hC dX6_takeNeeded_19 (by decide) rfl k9 k8 ?_
      refine r_aload_n hC dX6_takeNeeded_20 rfl ?_
      refine r_aload_n hC dX6_takeNeeded_21 rfl ?_
      refine r_iload_n hC dX6_takeNeeded_22 rfl ?_
      refine r_iload_n hC dX6_takeNeeded_23 rfl ?_
      refine r_aload_n hC dX6_takeNeeded_24 rfl ?_
      obtain ⟨k9, hV⟩ := hV
      refine r_getR hC dX6_takeNeeded_25 fl_6_41 rf_6_6 lq_6 k9 ?_
      refine r_iload_n hC dX6_takeNeeded_28 rfl ?_
      obtain ⟨k9, k8, hV⟩ := hV
      refine r_iald (kd := 37) hC dX6_takeNeeded_29 (by decide) rfl k9 k8 ?_
      obtain ⟨k9, hV⟩ := hV
      refine r_callV (ci := 6) (As := [rv a2, .int a1, .int a3, .int (hI h (hR h a0 6) (ix a3))]) hC dX6_takeNeeded_30 rfl cf_X6_takePieces ml_6_286 im_X6_takePieces sl_X6_takePieces lq_6 rfl rfl k9 rfl ⟨(Nat.le_of_ble_eq_true rfl), (Nat.le_of_ble_eq_true rfl), (Nat.le_of_ble_eq_true rfl), (Nat.le_of_ble_eq_true rfl)⟩ (csI cs0) (Nat.le_of_ble_eq_true rfl) (con_X6_takePieces a0 a2 a1 a3 (hI h (hR h a0 6) (ix a3)) h _ hV) rfl (kI (k := 1) (n := 174) (fun r1 h1 hV => ?_))
      refine r_isub hC dX6_takeNeeded_33 ?_
      refine r_istore (lo1 := [some (rv a0), some (.int a1), some (rv a2), some (.int a3), some (.int ((hI h (hR h a0 6) (ix a3)) - r1)), none]) hC dX6_takeNeeded_34 (Nat.le_of_ble_eq_true rfl) (pvI rfl) rfl ?_
      refine r_iconst (v := 0) hC dX6_takeNeeded_36 (by decide) ?_
      refine r_istore (lo1 := [some (rv a0), some (.int a1), some (rv a2), some (.int a3), some (.int ((hI h (hR h a0 6) (ix a3)) - r1)), some (.int 0)]) hC dX6_takeNeeded_37 (Nat.le_of_ble_eq_true rfl) (pvI rfl) rfl ?_
      obtain ⟨n9, hV⟩ := hV
      exact ok_X6_takeNeeded_39 hC hQ ih n9 a0 a1 a2 a3 ((hI h (hR h a0 6) (ix a3)) - r1) 0 h1 hV
set_option maxRecDepth 100000 in
set_option maxHeartbeats 4000000 in
theorem ok_X6_takeNeeded_0 {E : Ev} {X : Xt} {l0 : Launch} {K : Nat → Hp → Prop} (hC : Cx E X l0 RX6 cX6_takeNeeded 6 rm_X6_takeNeeded) (hQ : CQ E X "takeNeeded" (some (.array .int)) rm_X6_takeNeeded (KR K)) (a0 : Nat) (a1 : Int32) (h : Hp) (hV : V_X6_takeNeeded a0 a1 h K) : WW E X h 0 0 0 [some (rv a0), some (.int a1), none, none, none, none] [] := by
  unfold V_X6_takeNeeded at hV
  refine r_sipush (v := 174) hC dX6_takeNeeded_0 (by decide) ?_
  refine r_newarr (kd := 20) (d := 0) (N := 174) hC dX6_takeNeeded_3 (by decide) rfl (by decide) rfl ka_0 (by decide) (by decide) (by decide) ⟨(Nat.le_of_ble_eq_true rfl), (Nat.le_of_ble_eq_true rfl)⟩ (fun q1 k9 k8 => nmH (fun h1 k7 => ?_))
  replace hV := hV q1 k9 k8 h1 k7
  refine r_astore_n (ii := 2) (lo1 := [some (rv a0), some (.int a1), some (rv q1), none, none, none]) hC dX6_takeNeeded_5 rfl (Nat.le_of_ble_eq_true rfl) (pvI rfl) rfl ?_
  refine r_iconst (v := 0) hC dX6_takeNeeded_6 (by decide) ?_
  refine r_istore_n (ii := 3) (lo1 := [some (rv a0), some (.int a1), some (rv q1), some (.int 0), none, none]) hC dX6_takeNeeded_7 rfl (Nat.le_of_ble_eq_true rfl) (pvR rfl) rfl ?_
  obtain ⟨n9, hV⟩ := hV
  exact ok_X6_takeNeeded_8 hC hQ n9 a0 a1 q1 0 h1 hV
set_option maxRecDepth 100000 in
set_option maxHeartbeats 4000000 in
theorem con_X6_takeNeeded {E : Ev} {l0 : Launch} (a0 : Nat) (a1 : Int32) (h : Hp) (K : Nat → Hp → Prop) (hV : V_X6_takeNeeded a0 a1 h K) : Con E l0 yX6_takeNeeded cX6_takeNeeded 6 (some (.array .int)) rm_X6_takeNeeded [rv a0, .int a1] h (KR K) := by
  refine Con.of (by decide +kernel) (cat_R (cat_I cat_nil)) (Nat.le_of_ble_eq_true rfl) (fun X hC hQ => ?_)
  refine r_sub (lo1 := [some (rv a0), some (.int a1), none, none, none, none]) (show lsub [some (rv a0), some (.int a1), none, none, none, none] _ from ⟨Or.inr rfl, ⟨Or.inr rfl, ⟨Or.inr rfl, ⟨Or.inr rfl, ⟨Or.inr rfl, ⟨Or.inr rfl, trivial⟩⟩⟩⟩⟩⟩) ?_
  exact ok_X6_takeNeeded_0 hC hQ a0 a1 h hV
theorem dX6_set_0 : decode cX6_set 0 = .ok (.aload_n 0, 1) := by decide +kernel
theorem dX6_set_1 : decode cX6_set 1 = .ok (.getfield 19, 3) := by decide +kernel
theorem dX6_set_4 : decode cX6_set 4 = .ok (.iload_n 1, 1) := by decide +kernel
theorem dX6_set_5 : decode cX6_set 5 = .ok (.invokevirtual 138, 3) := by decide +kernel
theorem dX6_set_8 : decode cX6_set 8 = .ok (.astore_n 2, 1) := by decide +kernel
theorem dX6_set_9 : decode cX6_set 9 = .ok (.aload_n 2, 1) := by decide +kernel
theorem dX6_set_10 : decode cX6_set 10 = .ok (.ifnonnull 5, 3) := by decide +kernel
theorem dX6_set_13 : decode cX6_set 13 = .ok (.iconst (-1), 1) := by decide +kernel
theorem dX6_set_14 : decode cX6_set 14 = .ok (.ireturn, 1) := by decide +kernel
theorem dX6_set_15 : decode cX6_set 15 = .ok (.aload_n 2, 1) := by decide +kernel
theorem dX6_set_16 : decode cX6_set 16 = .ok (.getfield 142, 3) := by decide +kernel
theorem dX6_set_19 : decode cX6_set 19 = .ok (.ifCond .eq 6, 3) := by decide +kernel
theorem dX6_set_22 : decode cX6_set 22 = .ok (.bipush (-4), 2) := by decide +kernel
theorem dX6_set_24 : decode cX6_set 24 = .ok (.ireturn, 1) := by decide +kernel
theorem dX6_set_25 : decode cX6_set 25 = .ok (.aload_n 0, 1) := by decide +kernel
theorem dX6_set_26 : decode cX6_set 26 = .ok (.aload_n 2, 1) := by decide +kernel
theorem dX6_set_27 : decode cX6_set 27 = .ok (.invokevirtual 145, 3) := by decide +kernel
theorem dX6_set_30 : decode cX6_set 30 = .ok (.iconst 0, 1) := by decide +kernel
theorem dX6_set_31 : decode cX6_set 31 = .ok (.istore_n 3, 1) := by decide +kernel
theorem dX6_set_32 : decode cX6_set 32 = .ok (.iload_n 3, 1) := by decide +kernel
theorem dX6_set_33 : decode cX6_set 33 = .ok (.bipush 29, 2) := by decide +kernel
theorem dX6_set_35 : decode cX6_set 35 = .ok (.if_icmp .ge 20, 3) := by decide +kernel
theorem dX6_set_38 : decode cX6_set 38 = .ok (.aload_n 0, 1) := by decide +kernel
theorem dX6_set_39 : decode cX6_set 39 = .ok (.iload_n 3, 1) := by decide +kernel
theorem dX6_set_40 : decode cX6_set 40 = .ok (.invokevirtual 149, 3) := by decide +kernel
theorem dX6_set_43 : decode cX6_set 43 = .ok (.ifCond .le 6, 3) := by decide +kernel
theorem dX6_set_46 : decode cX6_set 46 = .ok (.bipush (-4), 2) := by decide +kernel
theorem dX6_set_48 : decode cX6_set 48 = .ok (.ireturn, 1) := by decide +kernel
theorem dX6_set_49 : decode cX6_set 49 = .ok (.iinc 3 1, 3) := by decide +kernel
theorem dX6_set_52 : decode cX6_set 52 = .ok (.goto (-20), 3) := by decide +kernel
theorem dX6_set_55 : decode cX6_set 55 = .ok (.aload_n 0, 1) := by decide +kernel
theorem dX6_set_56 : decode cX6_set 56 = .ok (.invokevirtual 55, 3) := by decide +kernel
theorem dX6_set_59 : decode cX6_set 59 = .ok (.new 124, 3) := by decide +kernel
theorem dX6_set_62 : decode cX6_set 62 = .ok (.dup, 1) := by decide +kernel
theorem dX6_set_63 : decode cX6_set 63 = .ok (.aload_n 2, 1) := by decide +kernel
theorem dX6_set_64 : decode cX6_set 64 = .ok (.getfield 152, 3) := by decide +kernel
theorem dX6_set_67 : decode cX6_set 67 = .ok (.iconst 1, 1) := by decide +kernel
theorem dX6_set_68 : decode cX6_set 68 = .ok (.bipush (-5), 2) := by decide +kernel
theorem dX6_set_70 : decode cX6_set 70 = .ok (.aload_n 0, 1) := by decide +kernel
theorem dX6_set_71 : decode cX6_set 71 = .ok (.aload_n 2, 1) := by decide +kernel
theorem dX6_set_72 : decode cX6_set 72 = .ok (.getfield 152, 3) := by decide +kernel
theorem dX6_set_75 : decode cX6_set 75 = .ok (.getfield 156, 3) := by decide +kernel
theorem dX6_set_78 : decode cX6_set 78 = .ok (.invokevirtual 159, 3) := by decide +kernel
theorem dX6_set_81 : decode cX6_set 81 = .ok (.invokespecial 131, 3) := by decide +kernel
theorem dX6_set_84 : decode cX6_set 84 = .ok (.astore_n 3, 1) := by decide +kernel
theorem dX6_set_85 : decode cX6_set 85 = .ok (.aload_n 0, 1) := by decide +kernel
theorem dX6_set_86 : decode cX6_set 86 = .ok (.getfield 19, 3) := by decide +kernel
theorem dX6_set_89 : decode cX6_set 89 = .ok (.iload_n 1, 1) := by decide +kernel
theorem dX6_set_90 : decode cX6_set 90 = .ok (.aload_n 3, 1) := by decide +kernel
theorem dX6_set_91 : decode cX6_set 91 = .ok (.invokevirtual 134, 3) := by decide +kernel
theorem dX6_set_94 : decode cX6_set 94 = .ok (.aload_n 3, 1) := by decide +kernel
theorem dX6_set_95 : decode cX6_set 95 = .ok (.invokevirtual 163, 3) := by decide +kernel
theorem dX6_set_98 : decode cX6_set 98 = .ok (.ireturn, 1) := by decide +kernel
def rm_X6_set : Room := { frames := 4, cells := 6, slots := 404, locals := 96 }
set_option maxRecDepth 100000 in
set_option maxHeartbeats 4000000 in
theorem ok_X6_set_32 {E : Ev} {X : Xt} {l0 : Launch} {K : Int32 → Hp → Prop} (hC : Cx E X l0 RX6 cX6_set 4 rm_X6_set) (hQ : CQ E X "set" (some .int) rm_X6_set (KI K)) : ∀ (n : Nat) (a0 : Nat) (a1 : Int32) (a2 : Nat) (a3 : Int32) (h : Hp), V_X6_set_32 K n a0 a1 a2 a3 h → WW E X h 0 0 32 [some (rv a0), some (.int a1), some (rv a2), some (.int a3)] [] := by
  intro n
  induction n with
  | zero => intro a0 a1 a2 a3 h hV; exact hV.elim
  | succ n ih =>
    intro a0 a1 a2 a3 h hV
    unfold V_X6_set_32 at hV
    refine r_iload_n hC dX6_set_32 rfl ?_
    refine r_bipush (v := 29) hC dX6_set_33 (by decide) ?_
    refine r_icmp_ge (tgt := 55) hC dX6_set_35 (by decide) (fun k9 => ?_) (fun k9 => ?_)
    · replace hV := hV.1 k9
      refine r_aload_n hC dX6_set_55 rfl ?_
      obtain ⟨k9, hV⟩ := hV
      refine r_callV (ci := 6) (As := []) hC dX6_set_56 rfl cf_X6_recordState ml_6_55 im_X6_recordState sl_X6_recordState lq_6 rfl rfl k9 rfl ⟨(Nat.le_of_ble_eq_true rfl), (Nat.le_of_ble_eq_true rfl), (Nat.le_of_ble_eq_true rfl), (Nat.le_of_ble_eq_true rfl)⟩ cs0 (Nat.le_of_ble_eq_true rfl) (con_X6_recordState a0 h _ hV) rfl (kV (k := 4) (n := 226) (fun h1 hV => ?_))
      refine r_new (ci := 1) hC dX6_set_59 kl_6_124 ki_1 kz_1 rfl iw_1 ft_1 df_1 lq_1 ⟨(Nat.le_of_ble_eq_true rfl), (Nat.le_of_ble_eq_true rfl)⟩ (fun q1 k9 k8 => nmH (fun h2 k7 => ?_))
      replace hV := hV q1 k9 k8 h2 k7
      refine r_dup hC dX6_set_62 (rv_cat _) ?_
      refine r_aload_n hC dX6_set_63 rfl ?_
      obtain ⟨k9, hV⟩ := hV
      refine r_getR hC dX6_set_64 fl_6_152 rf_1_0 lq_1 k9 ?_
      refine r_iconst (v := 1) hC dX6_set_67 (by decide) ?_
      refine r_bipush (v := (-5)) hC dX6_set_68 (by decide) ?_
      refine r_aload_n hC dX6_set_70 rfl ?_
      refine r_aload_n hC dX6_set_71 rfl ?_
      obtain ⟨k9, hV⟩ := hV
      refine r_getR hC dX6_set_72 fl_6_152 rf_1_0 lq_1 k9 ?_
      obtain ⟨k9, hV⟩ := hV
      refine r_getI hC dX6_set_75 fl_6_156 rf_3_0 lq_3 k9 ?_
      obtain ⟨k9, hV⟩ := hV
      refine r_callV (ci := 6) (As := [.int (hI h2 (hR h2 a2 0) 0)]) hC dX6_set_78 rfl cf_X6_takeNeeded ml_6_159 im_X6_takeNeeded sl_X6_takeNeeded lq_6 rfl rfl k9 rfl ⟨(Nat.le_of_ble_eq_true rfl), (Nat.le_of_ble_eq_true rfl), (Nat.le_of_ble_eq_true rfl), (Nat.le_of_ble_eq_true rfl)⟩ (csI (csI (csR (csR (csR cs0))))) (Nat.le_of_ble_eq_true rfl) (con_X6_takeNeeded a0 (hI h2 (hR h2 a2 0) 0) h2 _ hV) rfl (kR (k := 6) (n := 404) (fun r1 h3 hV => ?_))
      obtain ⟨k9, hV⟩ := hV
      refine r_callI (As := [rv (hR h2 a2 0), .int 1, .int (-5), rv r1]) hC dX6_set_81 rfl cf_X1_init ml_6_131 rfl im_X1_init k9 rfl ⟨(Nat.le_of_ble_eq_true rfl), (Nat.le_of_ble_eq_true rfl), (Nat.le_of_ble_eq_true rfl), (Nat.le_of_ble_eq_true rfl)⟩ (csR cs0) (Nat.le_of_ble_eq_true rfl) (con_X1_init q1 (hR h2 a2 0) 1 (-5) r1 h3 _ hV) rfl (kV (k := 6) (n := 404) (fun h4 hV => ?_))
      refine r_astore_n (ii := 3) (lo1 := [some (rv a0), some (.int a1), some (rv a2), some (rv q1)]) hC dX6_set_84 rfl (Nat.le_of_ble_eq_true rfl) (pvR rfl) rfl ?_
      refine r_aload_n hC dX6_set_85 rfl ?_
      obtain ⟨k9, hV⟩ := hV
      refine r_getR hC dX6_set_86 fl_6_19 rf_6_1 lq_6 k9 ?_
      refine r_iload_n hC dX6_set_89 rfl ?_
      refine r_aload_n hC dX6_set_90 rfl ?_
      obtain ⟨k9, hV⟩ := hV
      refine r_callV (ci := 5) (As := [.int a1, rv q1]) hC dX6_set_91 rfl cf_X5_putJob ml_6_134 im_X5_putJob sl_X5_putJob lq_5 rfl rfl k9 rfl ⟨(Nat.le_of_ble_eq_true rfl), (Nat.le_of_ble_eq_true rfl), (Nat.le_of_ble_eq_true rfl), (Nat.le_of_ble_eq_true rfl)⟩ cs0 (Nat.le_of_ble_eq_true rfl) (con_X5_putJob (hR h4 a0 1) a1 q1 h4 _ hV) rfl (kV (k := 6) (n := 404) (fun h5 hV => ?_))
      refine r_aload_n hC dX6_set_94 rfl ?_
      obtain ⟨k9, hV⟩ := hV
      refine r_callV (ci := 1) (As := []) hC dX6_set_95 rfl cf_X1_borrowedPieces ml_6_163 im_X1_borrowedPieces sl_X1_borrowedPieces lq_1 rfl rfl k9 rfl ⟨(Nat.le_of_ble_eq_true rfl), (Nat.le_of_ble_eq_true rfl), (Nat.le_of_ble_eq_true rfl), (Nat.le_of_ble_eq_true rfl)⟩ cs0 (Nat.le_of_ble_eq_true rfl) (con_X1_borrowedPieces q1 h5 _ hV) rfl (kI (k := 6) (n := 404) (fun r2 h6 hV => ?_))
      exact r_iret hC hQ dX6_set_98 (Nat.le_of_ble_eq_true rfl) (Nat.le_of_ble_eq_true rfl) ⟨_, rfl, hV⟩
    · replace hV := hV.2 k9
      refine r_aload_n hC dX6_set_38 rfl ?_
      refine r_iload_n hC dX6_set_39 rfl ?_
      obtain ⟨k9, hV⟩ := hV
      refine r_callV (ci := 6) (As := [.int a3]) hC dX6_set_40 rfl cf_X6_missingOf ml_6_149 im_X6_missingOf sl_X6_missingOf lq_6 rfl rfl k9 rfl ⟨(Nat.le_of_ble_eq_true rfl), (Nat.le_of_ble_eq_true rfl), (Nat.le_of_ble_eq_true rfl), (Nat.le_of_ble_eq_true rfl)⟩ cs0 (Nat.le_of_ble_eq_true rfl) (con_X6_missingOf a0 a3 h _ hV) rfl (kI (k := 0) (n := 0) (fun r1 h1 hV => ?_))
      refine r_if_le (tgt := 49) hC dX6_set_43 (by decide) (fun k9 => ?_) (fun k9 => ?_)
      · replace hV := hV.1 k9
        refine r_iinc (v := 1) (lo1 := [some (rv a0), some (.int a1), some (rv a2), some (.int (a3 + 1))]) hC dX6_set_49 rfl (by decide) (pvR rfl) rfl ?_
        refine r_goto (tgt := 32) hC dX6_set_52 (by decide) ?_
        exact ih a0 a1 a2 (a3 + 1) h1 hV
      · replace hV := hV.2 k9
        refine r_bipush (v := (-4)) hC dX6_set_46 (by decide) ?_
        exact r_iret hC hQ dX6_set_48 (Nat.le_of_ble_eq_true rfl) (Nat.le_of_ble_eq_true rfl) ⟨_, rfl, hV⟩
set_option maxRecDepth 100000 in
set_option maxHeartbeats 4000000 in
theorem ok_X6_set_0 {E : Ev} {X : Xt} {l0 : Launch} {K : Int32 → Hp → Prop} (hC : Cx E X l0 RX6 cX6_set 4 rm_X6_set) (hQ : CQ E X "set" (some .int) rm_X6_set (KI K)) (a0 : Nat) (a1 : Int32) (h : Hp) (hV : V_X6_set a0 a1 h K) : WW E X h 0 0 0 [some (rv a0), some (.int a1), none, none] [] := by
  unfold V_X6_set at hV
  refine r_aload_n hC dX6_set_0 rfl ?_
  obtain ⟨k9, hV⟩ := hV
  refine r_getR hC dX6_set_1 fl_6_19 rf_6_1 lq_6 k9 ?_
  refine r_iload_n hC dX6_set_4 rfl ?_
  obtain ⟨k9, hV⟩ := hV
  refine r_callV (ci := 5) (As := [.int a1]) hC dX6_set_5 rfl cf_X5_findJob ml_6_138 im_X5_findJob sl_X5_findJob lq_5 rfl rfl k9 rfl ⟨(Nat.le_of_ble_eq_true rfl), (Nat.le_of_ble_eq_true rfl), (Nat.le_of_ble_eq_true rfl), (Nat.le_of_ble_eq_true rfl)⟩ cs0 (Nat.le_of_ble_eq_true rfl) (con_X5_findJob (hR h a0 1) a1 h _ hV) rfl (kR (k := 0) (n := 0) (fun r1 h1 hV => ?_))
  refine r_astore_n (ii := 2) (lo1 := [some (rv a0), some (.int a1), some (rv r1), none]) hC dX6_set_8 rfl (Nat.le_of_ble_eq_true rfl) (pvI rfl) rfl ?_
  refine r_aload_n hC dX6_set_9 rfl ?_
  refine r_ifnonnull (tgt := 15) hC dX6_set_10 (by decide) (fun k9 => ?_) (fun k9 => ?_)
  · replace hV := hV.1 k9
    refine r_aload_n hC dX6_set_15 rfl ?_
    obtain ⟨k9, hV⟩ := hV
    refine r_getI hC dX6_set_16 fl_6_142 rf_1_1 lq_1 k9 ?_
    refine r_if_eq (tgt := 25) hC dX6_set_19 (by decide) (fun k9 => ?_) (fun k9 => ?_)
    · replace hV := hV.1 k9
      refine r_aload_n hC dX6_set_25 rfl ?_
      refine r_aload_n hC dX6_set_26 rfl ?_
      obtain ⟨k9, hV⟩ := hV
      refine r_callV (ci := 6) (As := [rv r1]) hC dX6_set_27 rfl cf_X6_reckon ml_6_145 im_X6_reckon sl_X6_reckon lq_6 rfl rfl k9 rfl ⟨(Nat.le_of_ble_eq_true rfl), (Nat.le_of_ble_eq_true rfl), (Nat.le_of_ble_eq_true rfl), (Nat.le_of_ble_eq_true rfl)⟩ cs0 (Nat.le_of_ble_eq_true rfl) (con_X6_reckon a0 r1 h1 _ hV) rfl (kV (k := 0) (n := 0) (fun h2 hV => ?_))
      refine r_iconst (v := 0) hC dX6_set_30 (by decide) ?_
      refine r_istore_n (ii := 3) (lo1 := [some (rv a0), some (.int a1), some (rv r1), some (.int 0)]) hC dX6_set_31 rfl (Nat.le_of_ble_eq_true rfl) (pvR rfl) rfl ?_
      obtain ⟨n9, hV⟩ := hV
      exact ok_X6_set_32 hC hQ n9 a0 a1 r1 0 h2 hV
    · replace hV := hV.2 k9
      refine r_bipush (v := (-4)) hC dX6_set_22 (by decide) ?_
      exact r_iret hC hQ dX6_set_24 (Nat.le_of_ble_eq_true rfl) (Nat.le_of_ble_eq_true rfl) ⟨_, rfl, hV⟩
  · replace hV := hV.2 k9
    refine r_iconst (v := (-1)) hC dX6_set_13 (by decide) ?_
    exact r_iret hC hQ dX6_set_14 (Nat.le_of_ble_eq_true rfl) (Nat.le_of_ble_eq_true rfl) ⟨_, rfl, hV⟩
set_option maxRecDepth 100000 in
set_option maxHeartbeats 4000000 in
theorem con_X6_set {E : Ev} {l0 : Launch} (a0 : Nat) (a1 : Int32) (h : Hp) (K : Int32 → Hp → Prop) (hV : V_X6_set a0 a1 h K) : Con E l0 yX6_set cX6_set 4 (some .int) rm_X6_set [rv a0, .int a1] h (KI K) := by
  refine Con.of (by decide +kernel) (cat_R (cat_I cat_nil)) (Nat.le_of_ble_eq_true rfl) (fun X hC hQ => ?_)
  refine r_sub (lo1 := [some (rv a0), some (.int a1), none, none]) (show lsub [some (rv a0), some (.int a1), none, none] _ from ⟨Or.inr rfl, ⟨Or.inr rfl, ⟨Or.inr rfl, ⟨Or.inr rfl, trivial⟩⟩⟩⟩) ?_
  exact ok_X6_set_0 hC hQ a0 a1 h hV
theorem dX6_taken_0 : decode cX6_taken 0 = .ok (.aload_n 0, 1) := by decide +kernel
theorem dX6_taken_1 : decode cX6_taken 1 = .ok (.getfield 19, 3) := by decide +kernel
theorem dX6_taken_4 : decode cX6_taken 4 = .ok (.iload_n 1, 1) := by decide +kernel
theorem dX6_taken_5 : decode cX6_taken 5 = .ok (.invokevirtual 138, 3) := by decide +kernel
theorem dX6_taken_8 : decode cX6_taken 8 = .ok (.astore 4, 2) := by decide +kernel
theorem dX6_taken_10 : decode cX6_taken 10 = .ok (.aload 4, 2) := by decide +kernel
theorem dX6_taken_12 : decode cX6_taken 12 = .ok (.ifnull 18, 3) := by decide +kernel
theorem dX6_taken_15 : decode cX6_taken 15 = .ok (.aload_n 0, 1) := by decide +kernel
theorem dX6_taken_16 : decode cX6_taken 16 = .ok (.iload_n 2, 1) := by decide +kernel
theorem dX6_taken_17 : decode cX6_taken 17 = .ok (.invokevirtual 64, 3) := by decide +kernel
theorem dX6_taken_20 : decode cX6_taken 20 = .ok (.ifCond .eq 10, 3) := by decide +kernel
theorem dX6_taken_23 : decode cX6_taken 23 = .ok (.iload_n 3, 1) := by decide +kernel
theorem dX6_taken_24 : decode cX6_taken 24 = .ok (.invokestatic 68, 3) := by decide +kernel
theorem dX6_taken_27 : decode cX6_taken 27 = .ok (.ifCond .ne 5, 3) := by decide +kernel
theorem dX6_taken_30 : decode cX6_taken 30 = .ok (.iconst (-1), 1) := by decide +kernel
theorem dX6_taken_31 : decode cX6_taken 31 = .ok (.ireturn, 1) := by decide +kernel
theorem dX6_taken_32 : decode cX6_taken 32 = .ok (.aload 4, 2) := by decide +kernel
theorem dX6_taken_34 : decode cX6_taken 34 = .ok (.iload_n 2, 1) := by decide +kernel
theorem dX6_taken_35 : decode cX6_taken 35 = .ok (.iload_n 3, 1) := by decide +kernel
theorem dX6_taken_36 : decode cX6_taken 36 = .ok (.invokevirtual 215, 3) := by decide +kernel
theorem dX6_taken_39 : decode cX6_taken 39 = .ok (.ireturn, 1) := by decide +kernel
def rm_X6_taken : Room := { frames := 2, cells := 0, slots := 0, locals := 44 }
set_option maxRecDepth 100000 in
set_option maxHeartbeats 4000000 in
theorem ok_X6_taken_30 {E : Ev} {X : Xt} {l0 : Launch} {K : Int32 → Hp → Prop} (hC : Cx E X l0 RX6 cX6_taken 5 rm_X6_taken) (hQ : CQ E X "taken" (some .int) rm_X6_taken (KI K)) (h : Hp) (hV : V_X6_taken_30 K  h) : WW E X h 0 0 30 [none, none, none, none, none] [] := by
  unfold V_X6_taken_30 at hV
  refine r_iconst (v := (-1)) hC dX6_taken_30 (by decide) ?_
  exact r_iret hC hQ dX6_taken_31 (Nat.le_of_ble_eq_true rfl) (Nat.le_of_ble_eq_true rfl) ⟨_, rfl, hV⟩
set_option maxRecDepth 100000 in
set_option maxHeartbeats 4000000 in
theorem ok_X6_taken_0 {E : Ev} {X : Xt} {l0 : Launch} {K : Int32 → Hp → Prop} (hC : Cx E X l0 RX6 cX6_taken 5 rm_X6_taken) (hQ : CQ E X "taken" (some .int) rm_X6_taken (KI K)) (a0 : Nat) (a1 : Int32) (a2 : Int32) (a3 : Int32) (h : Hp) (hV : V_X6_taken a0 a1 a2 a3 h K) : WW E X h 0 0 0 [some (rv a0), some (.int a1), some (.int a2), some (.int a3), none] [] := by
  unfold V_X6_taken at hV
  refine r_aload_n hC dX6_taken_0 rfl ?_
  obtain ⟨k9, hV⟩ := hV
  refine r_getR hC dX6_taken_1 fl_6_19 rf_6_1 lq_6 k9 ?_
  refine r_iload_n hC dX6_taken_4 rfl ?_
  obtain ⟨k9, hV⟩ := hV
  refine r_callV (ci := 5) (As := [.int a1]) hC dX6_taken_5 rfl cf_X5_findJob ml_6_138 im_X5_findJob sl_X5_findJob lq_5 rfl rfl k9 rfl ⟨(Nat.le_of_ble_eq_true rfl), (Nat.le_of_ble_eq_true rfl), (Nat.le_of_ble_eq_true rfl), (Nat.le_of_ble_eq_true rfl)⟩ cs0 (Nat.le_of_ble_eq_true rfl) (con_X5_findJob (hR h a0 1) a1 h _ hV) rfl (kR (k := 0) (n := 0) (fun r1 h1 hV => ?_))
  refine r_astore (lo1 := [some (rv a0), some (.int a1), some (.int a2), some (.int a3), some (rv r1)]) hC dX6_taken_8 (Nat.le_of_ble_eq_true rfl) (pvI rfl) rfl ?_
  refine r_aload hC dX6_taken_10 rfl ?_
  refine r_ifnull (tgt := 30) hC dX6_taken_12 (by decide) (fun k9 => ?_) (fun k9 => ?_)
  · replace hV := hV.1 k9
    refine r_sub (lo1 := [none, none, none, none, none]) ⟨Or.inl rfl, ⟨Or.inl rfl, ⟨Or.inl rfl, ⟨Or.inl rfl, ⟨Or.inl rfl, trivial⟩⟩⟩⟩⟩ ?_
    exact ok_X6_taken_30 hC hQ  h1 hV
  · replace hV := hV.2 k9
    refine r_aload_n hC dX6_taken_15 rfl ?_
    refine r_iload_n hC dX6_taken_16 rfl ?_
    obtain ⟨k9, hV⟩ := hV
    refine r_callV (ci := 6) (As := [.int a2]) hC dX6_taken_17 rfl cf_X6_isCase ml_6_64 im_X6_isCase sl_X6_isCase lq_6 rfl rfl k9 rfl ⟨(Nat.le_of_ble_eq_true rfl), (Nat.le_of_ble_eq_true rfl), (Nat.le_of_ble_eq_true rfl), (Nat.le_of_ble_eq_true rfl)⟩ cs0 (Nat.le_of_ble_eq_true rfl) (con_X6_isCase a0 a2 h1 _ hV) rfl (kI (k := 0) (n := 0) (fun r2 h2 hV => ?_))
    refine r_if_eq (tgt := 30) hC dX6_taken_20 (by decide) (fun k9 => ?_) (fun k9 => ?_)
    · replace hV := hV.1 k9
      refine r_sub (lo1 := [none, none, none, none, none]) ⟨Or.inl rfl, ⟨Or.inl rfl, ⟨Or.inl rfl, ⟨Or.inl rfl, ⟨Or.inl rfl, trivial⟩⟩⟩⟩⟩ ?_
      exact ok_X6_taken_30 hC hQ  h2 hV
    · replace hV := hV.2 k9
      refine r_iload_n hC dX6_taken_23 rfl ?_
      refine r_callS (As := [.int a3]) hC dX6_taken_24 rfl cf_X6_isSort ml_6_68 st_X6_isSort rfl ⟨(Nat.le_of_ble_eq_true rfl), (Nat.le_of_ble_eq_true rfl), (Nat.le_of_ble_eq_true rfl), (Nat.le_of_ble_eq_true rfl)⟩ cs0 (Nat.le_of_ble_eq_true rfl) (con_X6_isSort a3 h2 _ hV) rfl (kI (k := 0) (n := 0) (fun r3 h3 hV => ?_))
      refine r_if_ne (tgt := 32) hC dX6_taken_27 (by decide) (fun k9 => ?_) (fun k9 => ?_)
      · replace hV := hV.1 k9
        refine r_aload hC dX6_taken_32 rfl ?_
        refine r_iload_n hC dX6_taken_34 rfl ?_
        refine r_iload_n hC dX6_taken_35 rfl ?_
        obtain ⟨k9, hV⟩ := hV
        refine r_callV (ci := 1) (As := [.int a2, .int a3]) hC dX6_taken_36 rfl cf_X1_takenFrom ml_6_215 im_X1_takenFrom sl_X1_takenFrom lq_1 rfl rfl k9 rfl ⟨(Nat.le_of_ble_eq_true rfl), (Nat.le_of_ble_eq_true rfl), (Nat.le_of_ble_eq_true rfl), (Nat.le_of_ble_eq_true rfl)⟩ cs0 (Nat.le_of_ble_eq_true rfl) (con_X1_takenFrom r1 a2 a3 h3 _ hV) rfl (kI (k := 0) (n := 0) (fun r4 h4 hV => ?_))
        exact r_iret hC hQ dX6_taken_39 (Nat.le_of_ble_eq_true rfl) (Nat.le_of_ble_eq_true rfl) ⟨_, rfl, hV⟩
      · replace hV := hV.2 k9
        refine r_sub (lo1 := [none, none, none, none, none]) ⟨Or.inl rfl, ⟨Or.inl rfl, ⟨Or.inl rfl, ⟨Or.inl rfl, ⟨Or.inl rfl, trivial⟩⟩⟩⟩⟩ ?_
        exact ok_X6_taken_30 hC hQ  h3 hV
set_option maxRecDepth 100000 in
set_option maxHeartbeats 4000000 in
theorem con_X6_taken {E : Ev} {l0 : Launch} (a0 : Nat) (a1 : Int32) (a2 : Int32) (a3 : Int32) (h : Hp) (K : Int32 → Hp → Prop) (hV : V_X6_taken a0 a1 a2 a3 h K) : Con E l0 yX6_taken cX6_taken 5 (some .int) rm_X6_taken [rv a0, .int a1, .int a2, .int a3] h (KI K) := by
  refine Con.of (by decide +kernel) (cat_R (cat_I (cat_I (cat_I cat_nil)))) (Nat.le_of_ble_eq_true rfl) (fun X hC hQ => ?_)
  refine r_sub (lo1 := [some (rv a0), some (.int a1), some (.int a2), some (.int a3), none]) (show lsub [some (rv a0), some (.int a1), some (.int a2), some (.int a3), none] _ from ⟨Or.inr rfl, ⟨Or.inr rfl, ⟨Or.inr rfl, ⟨Or.inr rfl, ⟨Or.inr rfl, trivial⟩⟩⟩⟩⟩) ?_
  exact ok_X6_taken_0 hC hQ a0 a1 a2 a3 h hV
theorem dX6_type_0 : decode cX6_type 0 = .ok (.aload_n 0, 1) := by decide +kernel
theorem dX6_type_1 : decode cX6_type 1 = .ok (.getfield 10, 3) := by decide +kernel
theorem dX6_type_4 : decode cX6_type 4 = .ok (.iload_n 1, 1) := by decide +kernel
theorem dX6_type_5 : decode cX6_type 5 = .ok (.invokevirtual 102, 3) := by decide +kernel
theorem dX6_type_8 : decode cX6_type 8 = .ok (.ifCond .eq 13, 3) := by decide +kernel
theorem dX6_type_11 : decode cX6_type 11 = .ok (.aload_n 0, 1) := by decide +kernel
theorem dX6_type_12 : decode cX6_type 12 = .ok (.getfield 10, 3) := by decide +kernel
theorem dX6_type_15 : decode cX6_type 15 = .ok (.getfield 106, 3) := by decide +kernel
theorem dX6_type_18 : decode cX6_type 18 = .ok (.goto 5, 3) := by decide +kernel
theorem dX6_type_21 : decode cX6_type 21 = .ok (.bipush (-3), 2) := by decide +kernel
theorem dX6_type_23 : decode cX6_type 23 = .ok (.ireturn, 1) := by decide +kernel
def rm_X6_type : Room := { frames := 1, cells := 0, slots := 0, locals := 21 }
set_option maxRecDepth 100000 in
set_option maxHeartbeats 4000000 in
theorem ok_X6_type_23 {E : Ev} {X : Xt} {l0 : Launch} {K : Int32 → Hp → Prop} (hC : Cx E X l0 RX6 cX6_type 2 rm_X6_type) (hQ : CQ E X "type" (some .int) rm_X6_type (KI K)) (s0 : Int32) (h : Hp) (hV : V_X6_type_23 K s0 h) : WW E X h 0 0 23 [none, none] [.int s0] := by
  unfold V_X6_type_23 at hV
  exact r_iret hC hQ dX6_type_23 (Nat.le_of_ble_eq_true rfl) (Nat.le_of_ble_eq_true rfl) ⟨_, rfl, hV⟩
set_option maxRecDepth 100000 in
set_option maxHeartbeats 4000000 in
theorem ok_X6_type_0 {E : Ev} {X : Xt} {l0 : Launch} {K : Int32 → Hp → Prop} (hC : Cx E X l0 RX6 cX6_type 2 rm_X6_type) (hQ : CQ E X "type" (some .int) rm_X6_type (KI K)) (a0 : Nat) (a1 : Int32) (h : Hp) (hV : V_X6_type a0 a1 h K) : WW E X h 0 0 0 [some (rv a0), some (.int a1)] [] := by
  unfold V_X6_type at hV
  refine r_aload_n hC dX6_type_0 rfl ?_
  obtain ⟨k9, hV⟩ := hV
  refine r_getR hC dX6_type_1 fl_6_10 rf_6_0 lq_6 k9 ?_
  refine r_iload_n hC dX6_type_4 rfl ?_
  obtain ⟨k9, hV⟩ := hV
  refine r_callV (ci := 0) (As := [.int a1]) hC dX6_type_5 rfl cf_X0_append ml_6_102 im_X0_append sl_X0_append lq_0 rfl rfl k9 rfl ⟨(Nat.le_of_ble_eq_true rfl), (Nat.le_of_ble_eq_true rfl), (Nat.le_of_ble_eq_true rfl), (Nat.le_of_ble_eq_true rfl)⟩ cs0 (Nat.le_of_ble_eq_true rfl) (con_X0_append (hR h a0 0) a1 h _ hV) rfl (kI (k := 0) (n := 0) (fun r1 h1 hV => ?_))
  refine r_if_eq (tgt := 21) hC dX6_type_8 (by decide) (fun k9 => ?_) (fun k9 => ?_)
  · replace hV := hV.1 k9
    refine r_bipush (v := (-3)) hC dX6_type_21 (by decide) ?_
    refine r_sub (lo1 := [none, none]) ⟨Or.inl rfl, ⟨Or.inl rfl, trivial⟩⟩ ?_
    exact ok_X6_type_23 hC hQ (-3) h1 hV
  · replace hV := hV.2 k9
    refine r_aload_n hC dX6_type_11 rfl ?_
    obtain ⟨k9, hV⟩ := hV
    refine r_getR hC dX6_type_12 fl_6_10 rf_6_0 lq_6 k9 ?_
    obtain ⟨k9, hV⟩ := hV
    refine r_getI hC dX6_type_15 fl_6_106 rf_0_1 lq_0 k9 ?_
    refine r_goto (tgt := 23) hC dX6_type_18 (by decide) ?_
    refine r_sub (lo1 := [none, none]) ⟨Or.inl rfl, ⟨Or.inl rfl, trivial⟩⟩ ?_
    exact ok_X6_type_23 hC hQ (hI h1 (hR h1 a0 0) 1) h1 hV
set_option maxRecDepth 100000 in
set_option maxHeartbeats 4000000 in
theorem con_X6_type {E : Ev} {l0 : Launch} (a0 : Nat) (a1 : Int32) (h : Hp) (K : Int32 → Hp → Prop) (hV : V_X6_type a0 a1 h K) : Con E l0 yX6_type cX6_type 2 (some .int) rm_X6_type [rv a0, .int a1] h (KI K) := by
  refine Con.of (by decide +kernel) (cat_R (cat_I cat_nil)) (Nat.le_of_ble_eq_true rfl) (fun X hC hQ => ?_)
  refine r_sub (lo1 := [some (rv a0), some (.int a1)]) (show lsub [some (rv a0), some (.int a1)] _ from ⟨Or.inr rfl, ⟨Or.inr rfl, trivial⟩⟩) ?_
  exact ok_X6_type_0 hC hQ a0 a1 h hV
theorem dX6_undo_0 : decode cX6_undo 0 = .ok (.aload_n 0, 1) := by decide +kernel
theorem dX6_undo_1 : decode cX6_undo 1 = .ok (.getfield 27, 3) := by decide +kernel
theorem dX6_undo_4 : decode cX6_undo 4 = .ok (.iconst 1, 1) := by decide +kernel
theorem dX6_undo_5 : decode cX6_undo 5 = .ok (.isub, 1) := by decide +kernel
theorem dX6_undo_6 : decode cX6_undo 6 = .ok (.istore_n 1, 1) := by decide +kernel
theorem dX6_undo_7 : decode cX6_undo 7 = .ok (.iload_n 1, 1) := by decide +kernel
theorem dX6_undo_8 : decode cX6_undo 8 = .ok (.ifCond .lt 21, 3) := by decide +kernel
theorem dX6_undo_11 : decode cX6_undo 11 = .ok (.iload_n 1, 1) := by decide +kernel
theorem dX6_undo_12 : decode cX6_undo 12 = .ok (.aload_n 0, 1) := by decide +kernel
theorem dX6_undo_13 : decode cX6_undo 13 = .ok (.getfield 23, 3) := by decide +kernel
theorem dX6_undo_16 : decode cX6_undo 16 = .ok (.arraylength, 1) := by decide +kernel
theorem dX6_undo_17 : decode cX6_undo 17 = .ok (.if_icmp .ge 12, 3) := by decide +kernel
theorem dX6_undo_20 : decode cX6_undo 20 = .ok (.aload_n 0, 1) := by decide +kernel
theorem dX6_undo_21 : decode cX6_undo 21 = .ok (.getfield 23, 3) := by decide +kernel
theorem dX6_undo_24 : decode cX6_undo 24 = .ok (.iload_n 1, 1) := by decide +kernel
theorem dX6_undo_25 : decode cX6_undo 25 = .ok (.aaload, 1) := by decide +kernel
theorem dX6_undo_26 : decode cX6_undo 26 = .ok (.ifnonnull 6, 3) := by decide +kernel
theorem dX6_undo_29 : decode cX6_undo 29 = .ok (.bipush (-5), 2) := by decide +kernel
theorem dX6_undo_31 : decode cX6_undo 31 = .ok (.ireturn, 1) := by decide +kernel
theorem dX6_undo_32 : decode cX6_undo 32 = .ok (.aload_n 0, 1) := by decide +kernel
theorem dX6_undo_33 : decode cX6_undo 33 = .ok (.getfield 19, 3) := by decide +kernel
theorem dX6_undo_36 : decode cX6_undo 36 = .ok (.aload_n 0, 1) := by decide +kernel
theorem dX6_undo_37 : decode cX6_undo 37 = .ok (.getfield 23, 3) := by decide +kernel
theorem dX6_undo_40 : decode cX6_undo 40 = .ok (.iload_n 1, 1) := by decide +kernel
theorem dX6_undo_41 : decode cX6_undo 41 = .ok (.aaload, 1) := by decide +kernel
theorem dX6_undo_42 : decode cX6_undo 42 = .ok (.invokevirtual 189, 3) := by decide +kernel
theorem dX6_undo_45 : decode cX6_undo 45 = .ok (.aload_n 0, 1) := by decide +kernel
theorem dX6_undo_46 : decode cX6_undo 46 = .ok (.iload_n 1, 1) := by decide +kernel
theorem dX6_undo_47 : decode cX6_undo 47 = .ok (.putfield 27, 3) := by decide +kernel
theorem dX6_undo_50 : decode cX6_undo 50 = .ok (.aload_n 0, 1) := by decide +kernel
theorem dX6_undo_51 : decode cX6_undo 51 = .ok (.getfield 27, 3) := by decide +kernel
theorem dX6_undo_54 : decode cX6_undo 54 = .ok (.ireturn, 1) := by decide +kernel
def rm_X6_undo : Room := { frames := 2, cells := 0, slots := 0, locals := 48 }
set_option maxRecDepth 100000 in
set_option maxHeartbeats 4000000 in
theorem ok_X6_undo_29 {E : Ev} {X : Xt} {l0 : Launch} {K : Int32 → Hp → Prop} (hC : Cx E X l0 RX6 cX6_undo 2 rm_X6_undo) (hQ : CQ E X "undo" (some .int) rm_X6_undo (KI K)) (h : Hp) (hV : V_X6_undo_29 K  h) : WW E X h 0 0 29 [none, none] [] := by
  unfold V_X6_undo_29 at hV
  refine r_bipush (v := (-5)) hC dX6_undo_29 (by decide) ?_
  exact r_iret hC hQ dX6_undo_31 (Nat.le_of_ble_eq_true rfl) (Nat.le_of_ble_eq_true rfl) ⟨_, rfl, hV⟩
set_option maxRecDepth 100000 in
set_option maxHeartbeats 4000000 in
theorem ok_X6_undo_0 {E : Ev} {X : Xt} {l0 : Launch} {K : Int32 → Hp → Prop} (hC : Cx E X l0 RX6 cX6_undo 2 rm_X6_undo) (hQ : CQ E X "undo" (some .int) rm_X6_undo (KI K)) (a0 : Nat) (h : Hp) (hV : V_X6_undo a0 h K) : WW E X h 0 0 0 [some (rv a0), none] [] := by
  unfold V_X6_undo at hV
  refine r_aload_n hC dX6_undo_0 rfl ?_
  obtain ⟨k9, hV⟩ := hV
  refine r_getI hC dX6_undo_1 fl_6_27 rf_6_3 lq_6 k9 ?_
  refine r_iconst (v := 1) hC dX6_undo_4 (by decide) ?_
  refine r_isub hC dX6_undo_5 ?_
  refine r_istore_n (ii := 1) (lo1 := [some (rv a0), some (.int ((hI h a0 3) - 1))]) hC dX6_undo_6 rfl (Nat.le_of_ble_eq_true rfl) (pvR rfl) rfl ?_
  refine r_iload_n hC dX6_undo_7 rfl ?_
  refine r_if_lt (tgt := 29) hC dX6_undo_8 (by decide) (fun k9 => ?_) (fun k9 => ?_)
  · replace hV := hV.1 k9
    refine r_sub (lo1 := [none, none]) ⟨Or.inl rfl, ⟨Or.inl rfl, trivial⟩⟩ ?_
    exact ok_X6_undo_29 hC hQ  h hV
  · replace hV := hV.2 k9
    refine r_iload_n hC dX6_undo_11 rfl ?_
    refine r_aload_n hC dX6_undo_12 rfl ?_
    obtain ⟨k9, hV⟩ := hV
    refine r_getR hC dX6_undo_13 fl_6_23 rf_6_2 lq_6 k9 ?_
    obtain ⟨k9, hV⟩ := hV
    refine r_alen (kd := 23) hC dX6_undo_16 (by decide) k9 ?_
    refine r_icmp_ge (tgt := 29) hC dX6_undo_17 (by decide) (fun k9 => ?_) (fun k9 => ?_)
    · replace hV := hV.1 k9
      refine r_sub (lo1 := [none, none]) ⟨Or.inl rfl, ⟨Or.inl rfl, trivial⟩⟩ ?_
      exact ok_X6_undo_29 hC hQ  h hV
    · replace hV := hV.2 k9
      refine r_aload_n hC dX6_undo_20 rfl ?_
      obtain ⟨k9, hV⟩ := hV
      refine r_getR hC dX6_undo_21 fl_6_23 rf_6_2 lq_6 k9 ?_
      refine r_iload_n hC dX6_undo_24 rfl ?_
      obtain ⟨k9, k8, hV⟩ := hV
      refine r_aald (kd := 23) (d := 3) hC dX6_undo_25 (by decide) rfl (by decide) k9 k8 ?_
      refine r_ifnonnull (tgt := 32) hC dX6_undo_26 (by decide) (fun k9 => ?_) (fun k9 => ?_)
      · replace hV := hV.1 k9
        refine r_aload_n hC dX6_undo_32 rfl ?_
        obtain ⟨k9, hV⟩ := hV
        refine r_getR hC dX6_undo_33 fl_6_19 rf_6_1 lq_6 k9 ?_
        refine r_aload_n hC dX6_undo_36 rfl ?_
        obtain ⟨k9, hV⟩ := hV
        refine r_getR hC dX6_undo_37 fl_6_23 rf_6_2 lq_6 k9 ?_
        refine r_iload_n hC dX6_undo_40 rfl ?_
        obtain ⟨k9, k8, hV⟩ := hV
        refine r_aald (kd := 23) (d := 3) hC dX6_undo_41 (by decide) rfl (by decide) k9 k8 ?_
        obtain ⟨k9, hV⟩ := hV
        refine r_callV (ci := 5) (As := [rv (hR h (hR h a0 2) (ix ((hI h a0 3) - 1)))]) hC dX6_undo_42 rfl cf_X5_copyFrom ml_6_189 im_X5_copyFrom sl_X5_copyFrom lq_5 rfl rfl k9 rfl ⟨(Nat.le_of_ble_eq_true rfl), (Nat.le_of_ble_eq_true rfl), (Nat.le_of_ble_eq_true rfl), (Nat.le_of_ble_eq_true rfl)⟩ cs0 (Nat.le_of_ble_eq_true rfl) (con_X5_copyFrom (hR h a0 1) (hR h (hR h a0 2) (ix ((hI h a0 3) - 1))) h _ hV) rfl (kV (k := 0) (n := 0) (fun h1 hV => ?_))
        refine r_aload_n hC dX6_undo_45 rfl ?_
        refine r_iload_n hC dX6_undo_46 rfl ?_
        obtain ⟨k9, hV⟩ := hV
        refine r_putI hC dX6_undo_47 fl_6_27 ft_6 rfl rf_6_3 ty_6_3 lq_6 k9 (nmH (fun h2 k9 => ?_))
        replace hV := hV h2 k9
        refine r_aload_n hC dX6_undo_50 rfl ?_
        obtain ⟨k9, hV⟩ := hV
        refine r_getI hC dX6_undo_51 fl_6_27 rf_6_3 lq_6 k9 ?_
        exact r_iret hC hQ dX6_undo_54 (Nat.le_of_ble_eq_true rfl) (Nat.le_of_ble_eq_true rfl) ⟨_, rfl, hV⟩
      · replace hV := hV.2 k9
        refine r_sub (lo1 := [none, none]) ⟨Or.inl rfl, ⟨Or.inl rfl, trivial⟩⟩ ?_
        exact ok_X6_undo_29 hC hQ  h hV
set_option maxRecDepth 100000 in
set_option maxHeartbeats 4000000 in
theorem con_X6_undo {E : Ev} {l0 : Launch} (a0 : Nat) (h : Hp) (K : Int32 → Hp → Prop) (hV : V_X6_undo a0 h K) : Con E l0 yX6_undo cX6_undo 2 (some .int) rm_X6_undo [rv a0] h (KI K) := by
  refine Con.of (by decide +kernel) (cat_R cat_nil) (Nat.le_of_ble_eq_true rfl) (fun X hC hQ => ?_)
  refine r_sub (lo1 := [some (rv a0), none]) (show lsub [some (rv a0), none] _ from ⟨Or.inr rfl, ⟨Or.inr rfl, trivial⟩⟩) ?_
  exact ok_X6_undo_0 hC hQ a0 h hV
theorem dX6_urgent_0 : decode cX6_urgent 0 = .ok (.bipush (-5), 2) := by decide +kernel
theorem dX6_urgent_2 : decode cX6_urgent 2 = .ok (.istore_n 1, 1) := by decide +kernel
theorem dX6_urgent_3 : decode cX6_urgent 3 = .ok (.iconst 0, 1) := by decide +kernel
theorem dX6_urgent_4 : decode cX6_urgent 4 = .ok (.istore_n 2, 1) := by decide +kernel
theorem dX6_urgent_5 : decode cX6_urgent 5 = .ok (.iconst 0, 1) := by decide +kernel
theorem dX6_urgent_6 : decode cX6_urgent 6 = .ok (.istore_n 3, 1) := by decide +kernel
theorem dX6_urgent_7 : decode cX6_urgent 7 = .ok (.iload_n 3, 1) := by decide +kernel
theorem dX6_urgent_8 : decode cX6_urgent 8 = .ok (.bipush 12, 2) := by decide +kernel
theorem dX6_urgent_10 : decode cX6_urgent 10 = .ok (.if_icmp .ge 61, 3) := by decide +kernel
theorem dX6_urgent_13 : decode cX6_urgent 13 = .ok (.aload_n 0, 1) := by decide +kernel
theorem dX6_urgent_14 : decode cX6_urgent 14 = .ok (.getfield 19, 3) := by decide +kernel
theorem dX6_urgent_17 : decode cX6_urgent 17 = .ok (.iload_n 3, 1) := by decide +kernel
theorem dX6_urgent_18 : decode cX6_urgent 18 = .ok (.invokevirtual 138, 3) := by decide +kernel
theorem dX6_urgent_21 : decode cX6_urgent 21 = .ok (.astore 4, 2) := by decide +kernel
theorem dX6_urgent_23 : decode cX6_urgent 23 = .ok (.aload 4, 2) := by decide +kernel
theorem dX6_urgent_25 : decode cX6_urgent 25 = .ok (.ifnull 40, 3) := by decide +kernel
theorem dX6_urgent_28 : decode cX6_urgent 28 = .ok (.aload 4, 2) := by decide +kernel
theorem dX6_urgent_30 : decode cX6_urgent 30 = .ok (.invokevirtual 182, 3) := by decide +kernel
theorem dX6_urgent_33 : decode cX6_urgent 33 = .ok (.ifCond .eq 32, 3) := by decide +kernel
theorem dX6_urgent_36 : decode cX6_urgent 36 = .ok (.iload_n 1, 1) := by decide +kernel
theorem dX6_urgent_37 : decode cX6_urgent 37 = .ok (.bipush (-5), 2) := by decide +kernel
theorem dX6_urgent_39 : decode cX6_urgent 39 = .ok (.if_icmp .eq 15, 3) := by decide +kernel
theorem dX6_urgent_42 : decode cX6_urgent 42 = .ok (.aload 4, 2) := by decide +kernel
theorem dX6_urgent_44 : decode cX6_urgent 44 = .ok (.getfield 152, 3) := by decide +kernel
theorem dX6_urgent_47 : decode cX6_urgent 47 = .ok (.getfield 199, 3) := by decide +kernel
theorem dX6_urgent_50 : decode cX6_urgent 50 = .ok (.iload_n 2, 1) := by decide +kernel
theorem dX6_urgent_51 : decode cX6_urgent 51 = .ok (.if_icmp .ge 14, 3) := by decide +kernel
theorem dX6_urgent_54 : decode cX6_urgent 54 = .ok (.iload_n 3, 1) := by decide +kernel
theorem dX6_urgent_55 : decode cX6_urgent 55 = .ok (.istore_n 1, 1) := by decide +kernel
theorem dX6_urgent_56 : decode cX6_urgent 56 = .ok (.aload 4, 2) := by decide +kernel
theorem dX6_urgent_58 : decode cX6_urgent 58 = .ok (.getfield 152, 3) := by decide +kernel
theorem dX6_urgent_61 : decode cX6_urgent 61 = .ok (.getfield 199, 3) := by decide +kernel
theorem dX6_urgent_64 : decode cX6_urgent 64 = .ok (.istore_n 2, 1) := by decide +kernel
theorem dX6_urgent_65 : decode cX6_urgent 65 = .ok (.iinc 3 1, 3) := by decide +kernel
theorem dX6_urgent_68 : decode cX6_urgent 68 = .ok (.goto (-61), 3) := by decide +kernel
theorem dX6_urgent_71 : decode cX6_urgent 71 = .ok (.iload_n 1, 1) := by decide +kernel
theorem dX6_urgent_72 : decode cX6_urgent 72 = .ok (.ireturn, 1) := by decide +kernel
def rm_X6_urgent : Room := { frames := 1, cells := 0, slots := 0, locals := 21 }
set_option maxRecDepth 100000 in
set_option maxHeartbeats 4000000 in
theorem ok_X6_urgent_65 {E : Ev} {X : Xt} {l0 : Launch} {K : Int32 → Hp → Prop} {C7 : Nat → Int32 → Int32 → Int32 → Hp → Prop} (hC : Cx E X l0 RX6 cX6_urgent 5 rm_X6_urgent) (hQ : CQ E X "urgent" (some .int) rm_X6_urgent (KI K)) (hC7 : ∀ (a0 : Nat) (a1 : Int32) (a2 : Int32) (a3 : Int32) (h : Hp), C7 a0 a1 a2 a3 h → WW E X h 0 0 7 [some (rv a0), some (.int a1), some (.int a2), some (.int a3), none] []) (a0 : Nat) (a1 : Int32) (a2 : Int32) (a3 : Int32) (h : Hp) (hV : V_X6_urgent_65 K C7 a0 a1 a2 a3 h) : WW E X h 0 0 65 [some (rv a0), some (.int a1), some (.int a2), some (.int a3), none] [] := by
  unfold V_X6_urgent_65 at hV
  refine r_iinc (v := 1) (lo1 := [some (rv a0), some (.int a1), some (.int a2), some (.int (a3 + 1)), none]) hC dX6_urgent_65 rfl (by decide) (pvI rfl) rfl ?_
  refine r_goto (tgt := 7) hC dX6_urgent_68 (by decide) ?_
  exact hC7 a0 a1 a2 (a3 + 1) h hV
set_option maxRecDepth 100000 in
set_option maxHeartbeats 4000000 in
theorem ok_X6_urgent_54 {E : Ev} {X : Xt} {l0 : Launch} {K : Int32 → Hp → Prop} {C7 : Nat → Int32 → Int32 → Int32 → Hp → Prop} (hC : Cx E X l0 RX6 cX6_urgent 5 rm_X6_urgent) (hQ : CQ E X "urgent" (some .int) rm_X6_urgent (KI K)) (hC7 : ∀ (a0 : Nat) (a1 : Int32) (a2 : Int32) (a3 : Int32) (h : Hp), C7 a0 a1 a2 a3 h → WW E X h 0 0 7 [some (rv a0), some (.int a1), some (.int a2), some (.int a3), none] []) (a0 : Nat) (a3 : Int32) (a4 : Nat) (h : Hp) (hV : V_X6_urgent_54 K C7 a0 a3 a4 h) : WW E X h 0 0 54 [some (rv a0), none, none, some (.int a3), some (rv a4)] [] := by
  unfold V_X6_urgent_54 at hV
  refine r_iload_n hC dX6_urgent_54 rfl ?_
  refine r_istore_n (ii := 1) (lo1 := [some (rv a0), some (.int a3), none, some (.int a3), some (rv a4)]) hC dX6_urgent_55 rfl (Nat.le_of_ble_eq_true rfl) (pvR rfl) rfl ?_
  refine r_aload hC dX6_urgent_56 rfl ?_
  obtain ⟨k9, hV⟩ := hV
  refine r_getR hC dX6_urgent_58 fl_6_152 rf_1_0 lq_1 k9 ?_
  obtain ⟨k9, hV⟩ := hV
  refine r_getI hC dX6_urgent_61 fl_6_199 rf_3_2 lq_3 k9 ?_
  refine r_istore_n (ii := 2) (lo1 := [some (rv a0), some (.int a3), some (.int (hI h (hR h a4 0) 2)), some (.int a3), some (rv a4)]) hC dX6_urgent_64 rfl (Nat.le_of_ble_eq_true rfl) (pvI rfl) rfl ?_
  refine r_sub (lo1 := [some (rv a0), some (.int a3), some (.int (hI h (hR h a4 0) 2)), some (.int a3), none]) ⟨Or.inr rfl, ⟨Or.inr rfl, ⟨Or.inr rfl, ⟨Or.inr rfl, ⟨Or.inl rfl, trivial⟩⟩⟩⟩⟩ ?_
  exact ok_X6_urgent_65 hC hQ hC7 a0 a3 (hI h (hR h a4 0) 2) a3 h hV
set_option maxRecDepth 100000 in
set_option maxHeartbeats 4000000 in
theorem ok_X6_urgent_7 {E : Ev} {X : Xt} {l0 : Launch} {K : Int32 → Hp → Prop} (hC : Cx E X l0 RX6 cX6_urgent 5 rm_X6_urgent) (hQ : CQ E X "urgent" (some .int) rm_X6_urgent (KI K)) : ∀ (n : Nat) (a0 : Nat) (a1 : Int32) (a2 : Int32) (a3 : Int32) (h : Hp), V_X6_urgent_7 K n a0 a1 a2 a3 h → WW E X h 0 0 7 [some (rv a0), some (.int a1), some (.int a2), some (.int a3), none] [] := by
  intro n
  induction n with
  | zero => intro a0 a1 a2 a3 h hV; exact hV.elim
  | succ n ih =>
    intro a0 a1 a2 a3 h hV
    unfold V_X6_urgent_7 at hV
    refine r_iload_n hC dX6_urgent_7 rfl ?_
    refine r_bipush (v := 12) hC dX6_urgent_8 (by decide) ?_
    refine r_icmp_ge (tgt := 71) hC dX6_urgent_10 (by decide) (fun k9 => ?_) (fun k9 => ?_)
    · replace hV := hV.1 k9
      refine r_iload_n hC dX6_urgent_71 rfl ?_
      exact r_iret hC hQ dX6_urgent_72 (Nat.le_of_ble_eq_true rfl) (Nat.le_of_ble_eq_true rfl) ⟨_, rfl, hV⟩
    · replace hV := hV.2 k9
      refine r_aload_n hC dX6_urgent_13 rfl ?_
      obtain ⟨k9, hV⟩ := hV
      refine r_getR hC dX6_urgent_14 fl_6_19 rf_6_1 lq_6 k9 ?_
      refine r_iload_n hC dX6_urgent_17 rfl ?_
      obtain ⟨k9, hV⟩ := hV
      refine r_callV (ci := 5) (As := [.int a3]) hC dX6_urgent_18 rfl cf_X5_findJob ml_6_138 im_X5_findJob sl_X5_findJob lq_5 rfl rfl k9 rfl ⟨(Nat.le_of_ble_eq_true rfl), (Nat.le_of_ble_eq_true rfl), (Nat.le_of_ble_eq_true rfl), (Nat.le_of_ble_eq_true rfl)⟩ cs0 (Nat.le_of_ble_eq_true rfl) (con_X5_findJob (hR h a0 1) a3 h _ hV) rfl (kR (k := 0) (n := 0) (fun r1 h1 hV => ?_))
      refine r_astore (lo1 := [some (rv a0), some (.int a1), some (.int a2), some (.int a3), some (rv r1)]) hC dX6_urgent_21 (Nat.le_of_ble_eq_true rfl) (pvI rfl) rfl ?_
      refine r_aload hC dX6_urgent_23 rfl ?_
      refine r_ifnull (tgt := 65) hC dX6_urgent_25 (by decide) (fun k9 => ?_) (fun k9 => ?_)
      · replace hV := hV.1 k9
        refine r_sub (lo1 := [some (rv a0), some (.int a1), some (.int a2), some (.int a3), none]) ⟨Or.inr rfl, ⟨Or.inr rfl, ⟨Or.inr rfl, ⟨Or.inr rfl, ⟨Or.inl rfl, trivial⟩⟩⟩⟩⟩ ?_
        exact ok_X6_urgent_65 hC hQ ih a0 a1 a2 a3 h1 hV
      · replace hV := hV.2 k9
        refine r_aload hC dX6_urgent_28 rfl ?_
        obtain ⟨k9, hV⟩ := hV
        refine r_callV (ci := 1) (As := []) hC dX6_urgent_30 rfl cf_X1_isOpen ml_6_182 im_X1_isOpen sl_X1_isOpen lq_1 rfl rfl k9 rfl ⟨(Nat.le_of_ble_eq_true rfl), (Nat.le_of_ble_eq_true rfl), (Nat.le_of_ble_eq_true rfl), (Nat.le_of_ble_eq_true rfl)⟩ cs0 (Nat.le_of_ble_eq_true rfl) (con_X1_isOpen r1 h1 _ hV) rfl (kI (k := 0) (n := 0) (fun r2 h2 hV => ?_))
        refine r_if_eq (tgt := 65) hC dX6_urgent_33 (by decide) (fun k9 => ?_) (fun k9 => ?_)
        · replace hV := hV.1 k9
          refine r_sub (lo1 := [some (rv a0), some (.int a1), some (.int a2), some (.int a3), none]) ⟨Or.inr rfl, ⟨Or.inr rfl, ⟨Or.inr rfl, ⟨Or.inr rfl, ⟨Or.inl rfl, trivial⟩⟩⟩⟩⟩ ?_
          exact ok_X6_urgent_65 hC hQ ih a0 a1 a2 a3 h2 hV
        · replace hV := hV.2 k9
          refine r_iload_n hC dX6_urgent_36 rfl ?_
          refine r_bipush (v := (-5)) hC dX6_urgent_37 (by decide) ?_
          refine r_icmp_eq (tgt := 54) hC dX6_urgent_39 (by decide) (fun k9 => ?_) (fun k9 => ?_)
          · replace hV := hV.1 k9
            refine r_sub (lo1 := [some (rv a0), none, none, some (.int a3), some (rv r1)]) ⟨Or.inr rfl, ⟨Or.inl rfl, ⟨Or.inl rfl, ⟨Or.inr rfl, ⟨Or.inr rfl, trivial⟩⟩⟩⟩⟩ ?_
            exact ok_X6_urgent_54 hC hQ ih a0 a3 r1 h2 hV
          · replace hV := hV.2 k9
            refine r_aload hC dX6_urgent_42 rfl ?_
            obtain ⟨k9, hV⟩ := hV
            refine r_getR hC dX6_urgent_44 fl_6_152 rf_1_0 lq_1 k9 ?_
            obtain ⟨k9, hV⟩ := hV
            refine r_getI hC dX6_urgent_47 fl_6_199 rf_3_2 lq_3 k9 ?_
            refine r_iload_n hC dX6_urgent_50 rfl ?_
            refine r_icmp_ge (tgt := 65) hC dX6_urgent_51 (by decide) (fun k9 => ?_) (fun k9 => ?_)
            · replace hV := hV.1 k9
              refine r_sub (lo1 := [some (rv a0), some (.int a1), some (.int a2), some (.int a3), none]) ⟨Or.inr rfl, ⟨Or.inr rfl, ⟨Or.inr rfl, ⟨Or.inr rfl, ⟨Or.inl rfl, trivial⟩⟩⟩⟩⟩ ?_
              exact ok_X6_urgent_65 hC hQ ih a0 a1 a2 a3 h2 hV
            · replace hV := hV.2 k9
              refine r_sub (lo1 := [some (rv a0), none, none, some (.int a3), some (rv r1)]) ⟨Or.inr rfl, ⟨Or.inl rfl, ⟨Or.inl rfl, ⟨Or.inr rfl, ⟨Or.inr rfl, trivial⟩⟩⟩⟩⟩ ?_
              exact ok_X6_urgent_54 hC hQ ih a0 a3 r1 h2 hV
set_option maxRecDepth 100000 in
set_option maxHeartbeats 4000000 in
theorem ok_X6_urgent_0 {E : Ev} {X : Xt} {l0 : Launch} {K : Int32 → Hp → Prop} (hC : Cx E X l0 RX6 cX6_urgent 5 rm_X6_urgent) (hQ : CQ E X "urgent" (some .int) rm_X6_urgent (KI K)) (a0 : Nat) (h : Hp) (hV : V_X6_urgent a0 h K) : WW E X h 0 0 0 [some (rv a0), none, none, none, none] [] := by
  unfold V_X6_urgent at hV
  refine r_bipush (v := (-5)) hC dX6_urgent_0 (by decide) ?_
  refine r_istore_n (ii := 1) (lo1 := [some (rv a0), some (.int (-5)), none, none, none]) hC dX6_urgent_2 rfl (Nat.le_of_ble_eq_true rfl) (pvR rfl) rfl ?_
  refine r_iconst (v := 0) hC dX6_urgent_3 (by decide) ?_
  refine r_istore_n (ii := 2) (lo1 := [some (rv a0), some (.int (-5)), some (.int 0), none, none]) hC dX6_urgent_4 rfl (Nat.le_of_ble_eq_true rfl) (pvI rfl) rfl ?_
  refine r_iconst (v := 0) hC dX6_urgent_5 (by decide) ?_
  refine r_istore_n (ii := 3) (lo1 := [some (rv a0), some (.int (-5)), some (.int 0), some (.int 0), none]) hC dX6_urgent_6 rfl (Nat.le_of_ble_eq_true rfl) (pvI rfl) rfl ?_
  obtain ⟨n9, hV⟩ := hV
  exact ok_X6_urgent_7 hC hQ n9 a0 (-5) 0 0 h hV
set_option maxRecDepth 100000 in
set_option maxHeartbeats 4000000 in
theorem con_X6_urgent {E : Ev} {l0 : Launch} (a0 : Nat) (h : Hp) (K : Int32 → Hp → Prop) (hV : V_X6_urgent a0 h K) : Con E l0 yX6_urgent cX6_urgent 5 (some .int) rm_X6_urgent [rv a0] h (KI K) := by
  refine Con.of (by decide +kernel) (cat_R cat_nil) (Nat.le_of_ble_eq_true rfl) (fun X hC hQ => ?_)
  refine r_sub (lo1 := [some (rv a0), none, none, none, none]) (show lsub [some (rv a0), none, none, none, none] _ from ⟨Or.inr rfl, ⟨Or.inr rfl, ⟨Or.inr rfl, ⟨Or.inr rfl, ⟨Or.inr rfl, trivial⟩⟩⟩⟩⟩) ?_
  exact ok_X6_urgent_0 hC hQ a0 h hV
