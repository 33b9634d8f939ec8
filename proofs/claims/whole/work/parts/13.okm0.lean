theorem dX7_record_0 : decode cX7_record 0 = .ok (.aload_n 0, 1) := by decide +kernel
theorem dX7_record_1 : decode cX7_record 1 = .ok (.getfield 52, 3) := by decide +kernel
theorem dX7_record_4 : decode cX7_record 4 = .ok (.iconst 5, 1) := by decide +kernel
theorem dX7_record_5 : decode cX7_record 5 = .ok (.if_icmp .ne 44, 3) := by decide +kernel
theorem dX7_record_8 : decode cX7_record 8 = .ok (.iconst 0, 1) := by decide +kernel
theorem dX7_record_9 : decode cX7_record 9 = .ok (.istore_n 1, 1) := by decide +kernel
theorem dX7_record_10 : decode cX7_record 10 = .ok (.iload_n 1, 1) := by decide +kernel
theorem dX7_record_11 : decode cX7_record 11 = .ok (.sipush 13900, 3) := by decide +kernel
theorem dX7_record_14 : decode cX7_record 14 = .ok (.if_icmp .ge 25, 3) := by decide +kernel
theorem dX7_record_17 : decode cX7_record 17 = .ok (.aload_n 0, 1) := by decide +kernel
theorem dX7_record_18 : decode cX7_record 18 = .ok (.getfield 13, 3) := by decide +kernel
theorem dX7_record_21 : decode cX7_record 21 = .ok (.iload_n 1, 1) := by decide +kernel
theorem dX7_record_22 : decode cX7_record 22 = .ok (.aload_n 0, 1) := by decide +kernel
theorem dX7_record_23 : decode cX7_record 23 = .ok (.getfield 13, 3) := by decide +kernel
theorem dX7_record_26 : decode cX7_record 26 = .ok (.iload_n 1, 1) := by decide +kernel
theorem dX7_record_27 : decode cX7_record 27 = .ok (.sipush 3475, 3) := by decide +kernel
theorem dX7_record_30 : decode cX7_record 30 = .ok (.iadd, 1) := by decide +kernel
theorem dX7_record_31 : decode cX7_record 31 = .ok (.iaload, 1) := by decide +kernel
theorem dX7_record_32 : decode cX7_record 32 = .ok (.iastore, 1) := by decide +kernel
theorem dX7_record_33 : decode cX7_record 33 = .ok (.iinc 1 1, 3) := by decide +kernel
theorem dX7_record_36 : decode cX7_record 36 = .ok (.goto (-26), 3) := by decide +kernel
theorem dX7_record_39 : decode cX7_record 39 = .ok (.aload_n 0, 1) := by decide +kernel
theorem dX7_record_40 : decode cX7_record 40 = .ok (.dup, 1) := by decide +kernel
theorem dX7_record_41 : decode cX7_record 41 = .ok (.getfield 52, 3) := by decide +kernel
theorem dX7_record_44 : decode cX7_record 44 = .ok (.iconst 1, 1) := by decide +kernel
theorem dX7_record_45 : decode cX7_record 45 = .ok (.isub, 1) := by decide +kernel
theorem dX7_record_46 : decode cX7_record 46 = .ok (.putfield 52, 3) := by decide +kernel
theorem dX7_record_49 : decode cX7_record 49 = .ok (.iconst 0, 1) := by decide +kernel
theorem dX7_record_50 : decode cX7_record 50 = .ok (.istore_n 1, 1) := by decide +kernel
theorem dX7_record_51 : decode cX7_record 51 = .ok (.iload_n 1, 1) := by decide +kernel
theorem dX7_record_52 : decode cX7_record 52 = .ok (.sipush 3475, 3) := by decide +kernel
theorem dX7_record_55 : decode cX7_record 55 = .ok (.if_icmp .ge 30, 3) := by decide +kernel
theorem dX7_record_58 : decode cX7_record 58 = .ok (.aload_n 0, 1) := by decide +kernel
theorem dX7_record_59 : decode cX7_record 59 = .ok (.getfield 13, 3) := by decide +kernel
theorem dX7_record_62 : decode cX7_record 62 = .ok (.sipush 3475, 3) := by decide +kernel
theorem dX7_record_65 : decode cX7_record 65 = .ok (.aload_n 0, 1) := by decide +kernel
theorem dX7_record_66 : decode cX7_record 66 = .ok (.getfield 52, 3) := by decide +kernel
theorem dX7_record_69 : decode cX7_record 69 = .ok (.imul, 1) := by decide +kernel
theorem dX7_record_70 : decode cX7_record 70 = .ok (.iload_n 1, 1) := by decide +kernel
theorem dX7_record_71 : decode cX7_record 71 = .ok (.iadd, 1) := by decide +kernel
theorem dX7_record_72 : decode cX7_record 72 = .ok (.aload_n 0, 1) := by decide +kernel
theorem dX7_record_73 : decode cX7_record 73 = .ok (.getfield 7, 3) := by decide +kernel
theorem dX7_record_76 : decode cX7_record 76 = .ok (.iload_n 1, 1) := by decide +kernel
theorem dX7_record_77 : decode cX7_record 77 = .ok (.iaload, 1) := by decide +kernel
theorem dX7_record_78 : decode cX7_record 78 = .ok (.iastore, 1) := by decide +kernel
theorem dX7_record_79 : decode cX7_record 79 = .ok (.iinc 1 1, 3) := by decide +kernel
theorem dX7_record_82 : decode cX7_record 82 = .ok (.goto (-31), 3) := by decide +kernel
theorem dX7_record_85 : decode cX7_record 85 = .ok (.aload_n 0, 1) := by decide +kernel
theorem dX7_record_86 : decode cX7_record 86 = .ok (.dup, 1) := by decide +kernel
theorem dX7_record_87 : decode cX7_record 87 = .ok (.getfield 52, 3) := by decide +kernel
theorem dX7_record_90 : decode cX7_record 90 = .ok (.iconst 1, 1) := by decide +kernel
theorem dX7_record_91 : decode cX7_record 91 = .ok (.iadd, 1) := by decide +kernel
theorem dX7_record_92 : decode cX7_record 92 = .ok (.putfield 52, 3) := by decide +kernel
theorem dX7_record_95 : decode cX7_record 95 = .ok (.return_, 1) := by decide +kernel
def rm_X7_record : Room := { frames := 0, cells := 0, slots := 0, locals := 0 }
set_option maxRecDepth 100000 in
set_option maxHeartbeats 4000000 in
theorem ok_X7_record_51 {E : Ev} {X : Xt} {l0 : Launch} {K : Hp → Prop} (hC : Cx E X l0 RX7 cX7_record 2 rm_X7_record) (hQ : CQ E X "record" none rm_X7_record (KV K)) : ∀ (n : Nat) (a0 : Nat) (a1 : Int32) (h : Hp), V_X7_record_51 K n a0 a1 h → WW E X h 0 0 51 [some (rv a0), some (.int a1)] [] := by
  intro n
  induction n with
  | zero => intro a0 a1 h hV; exact hV.elim
  | succ n ih =>
    intro a0 a1 h hV
    unfold V_X7_record_51 at hV
    refine r_iload_n hC dX7_record_51 rfl ?_
    refine r_sipush (v := 3475) hC dX7_record_52 (by decide) ?_
    refine r_icmp_ge (tgt := 85) hC dX7_record_55 (by decide) (fun k9 => ?_) (fun k9 => ?_)
    · replace hV := hV.1 k9
      refine r_aload_n hC dX7_record_85 rfl ?_
      refine r_dup hC dX7_record_86 (rv_cat _) ?_
      obtain ⟨k9, hV⟩ := hV
      refine r_getI hC dX7_record_87 fl_7_52 rf_7_2 lq_7 k9 ?_
      refine r_iconst (v := 1) hC dX7_record_90 (by decide) ?_
      refine r_iadd hC dX7_record_91 ?_
      obtain ⟨k9, hV⟩ := hV
      refine r_putI hC dX7_record_92 fl_7_52 ft_7 rfl rf_7_2 ty_7_2 lq_7 k9 (nmH (fun h1 k9 => ?_))
      replace hV := hV h1 k9
      exact r_vret hC hQ dX7_record_95 (Nat.le_of_ble_eq_true rfl) (Nat.le_of_ble_eq_true rfl) ⟨rfl, hV⟩
    · replace hV := hV.2 k9
      refine r_aload_n hC dX7_record_58 rfl ?_
      obtain ⟨k9, hV⟩ := hV
      refine r_getR hC dX7_record_59 fl_7_13 rf_7_1 lq_7 k9 ?_
      refine r_sipush (v := 3475) hC dX7_record_62 (by decide) ?_
      refine r_aload_n hC dX7_record_65 rfl ?_
      obtain ⟨k9, hV⟩ := hV
      refine r_getI hC dX7_record_66 fl_7_52 rf_7_2 lq_7 k9 ?_
      refine r_imul hC dX7_record_69 ?_
      refine r_iload_n hC dX7_record_70 rfl ?_
      refine r_iadd hC dX7_record_71 ?_
      refine r_aload_n hC dX7_record_72 rfl ?_
      obtain ⟨k9, hV⟩ := hV
      refine r_getR hC dX7_record_73 fl_7_7 rf_7_0 lq_7 k9 ?_
      refine r_iload_n hC dX7_record_76 rfl ?_
      obtain ⟨k9, k8, hV⟩ := hV
      refine r_iald (kd := 60) hC dX7_record_77 (by decide) rfl k9 k8 ?_
      obtain ⟨k9, k8, hV⟩ := hV
      refine r_iast (kd := 61) hC dX7_record_78 (by decide) rfl k9 k8 (nmH (fun h1 k9 => ?_))
      replace hV := hV h1 k9
      refine r_iinc (v := 1) (lo1 := [some (rv a0), some (.int (a1 + 1))]) hC dX7_record_79 rfl (by decide) rfl ?_
      refine r_goto (tgt := 51) hC dX7_record_82 (by decide) ?_
      exact ih a0 (a1 + 1) h1 hV
set_option maxRecDepth 100000 in
set_option maxHeartbeats 4000000 in
theorem ok_X7_record_49 {E : Ev} {X : Xt} {l0 : Launch} {K : Hp → Prop} (hC : Cx E X l0 RX7 cX7_record 2 rm_X7_record) (hQ : CQ E X "record" none rm_X7_record (KV K)) (a0 : Nat) (h : Hp) (hV : V_X7_record_49 K a0 h) : WW E X h 0 0 49 [some (rv a0), none] [] := by
  unfold V_X7_record_49 at hV
  refine r_iconst (v := 0) hC dX7_record_49 (by decide) ?_
  refine r_istore_n (lo1 := [some (rv a0), some (.int 0)]) hC dX7_record_50 (Nat.le_of_ble_eq_true rfl) rfl ?_
  obtain ⟨n9, hV⟩ := hV
  exact ok_X7_record_51 hC hQ n9 a0 0 h hV
set_option maxRecDepth 100000 in
set_option maxHeartbeats 4000000 in
theorem ok_X7_record_10 {E : Ev} {X : Xt} {l0 : Launch} {K : Hp → Prop} (hC : Cx E X l0 RX7 cX7_record 2 rm_X7_record) (hQ : CQ E X "record" none rm_X7_record (KV K)) : ∀ (n : Nat) (a0 : Nat) (a1 : Int32) (h : Hp), V_X7_record_10 K n a0 a1 h → WW E X h 0 0 10 [some (rv a0), some (.int a1)] [] := by
  intro n
  induction n with
  | zero => intro a0 a1 h hV; exact hV.elim
  | succ n ih =>
    intro a0 a1 h hV
    unfold V_X7_record_10 at hV
    refine r_iload_n hC dX7_record_10 rfl ?_
    refine r_sipush (v := 13900) hC dX7_record_11 (by decide) ?_
    refine r_icmp_ge (tgt := 39) hC dX7_record_14 (by decide) (fun k9 => ?_) (fun k9 => ?_)
    · replace hV := hV.1 k9
      refine r_aload_n hC dX7_record_39 rfl ?_
      refine r_dup hC dX7_record_40 (rv_cat _) ?_
      obtain ⟨k9, hV⟩ := hV
      refine r_getI hC dX7_record_41 fl_7_52 rf_7_2 lq_7 k9 ?_
      refine r_iconst (v := 1) hC dX7_record_44 (by decide) ?_
      refine r_isub hC dX7_record_45 ?_
      obtain ⟨k9, hV⟩ := hV
      refine r_putI hC dX7_record_46 fl_7_52 ft_7 rfl rf_7_2 ty_7_2 lq_7 k9 (nmH (fun h1 k9 => ?_))
      replace hV := hV h1 k9
      refine r_sub (lo1 := [some (rv a0), none]) ⟨Or.inr rfl, ⟨Or.inl rfl, trivial⟩⟩ ?_
      exact ok_X7_record_49 hC hQ a0 h1 hV
    · replace hV := hV.2 k9
      refine r_aload_n hC dX7_record_17 rfl ?_
      obtain ⟨k9, hV⟩ := hV
      refine r_getR hC dX7_record_18 fl_7_13 rf_7_1 lq_7 k9 ?_
      refine r_iload_n hC dX7_record_21 rfl ?_
      refine r_aload_n hC dX7_record_22 rfl ?_
      obtain ⟨k9, hV⟩ := hV
      refine r_getR hC dX7_record_23 fl_7_13 rf_7_1 lq_7 k9 ?_
      refine r_iload_n hC dX7_record_26 rfl ?_
      refine r_sipush (v := 3475) hC dX7_record_27 (by decide) ?_
      refine r_iadd hC dX7_record_30 ?_
      obtain ⟨k9, k8, hV⟩ := hV
      refine r_iald (kd := 61) hC dX7_record_31 (by decide) rfl k9 k8 ?_
      obtain ⟨k9, k8, hV⟩ := hV
      refine r_iast (kd := 61) hC dX7_record_32 (by decide) rfl k9 k8 (nmH (fun h1 k9 => ?_))
      replace hV := hV h1 k9
      refine r_iinc (v := 1) (lo1 := [some (rv a0), some (.int (a1 + 1))]) hC dX7_record_33 rfl (by decide) rfl ?_
      refine r_goto (tgt := 10) hC dX7_record_36 (by decide) ?_
      exact ih a0 (a1 + 1) h1 hV
set_option maxRecDepth 100000 in
set_option maxHeartbeats 4000000 in
theorem ok_X7_record_0 {E : Ev} {X : Xt} {l0 : Launch} {K : Hp → Prop} (hC : Cx E X l0 RX7 cX7_record 2 rm_X7_record) (hQ : CQ E X "record" none rm_X7_record (KV K)) (a0 : Nat) (h : Hp) (hV : V_X7_record a0 h K) : WW E X h 0 0 0 [some (rv a0), none] [] := by
  unfold V_X7_record at hV
  refine r_aload_n hC dX7_record_0 rfl ?_
  obtain ⟨k9, hV⟩ := hV
  refine r_getI hC dX7_record_1 fl_7_52 rf_7_2 lq_7 k9 ?_
  refine r_iconst (v := 5) hC dX7_record_4 (by decide) ?_
  refine r_icmp_ne (tgt := 49) hC dX7_record_5 (by decide) (fun k9 => ?_) (fun k9 => ?_)
  · replace hV := hV.1 k9
    exact ok_X7_record_49 hC hQ a0 h hV
  · replace hV := hV.2 k9
    refine r_iconst (v := 0) hC dX7_record_8 (by decide) ?_
    refine r_istore_n (lo1 := [some (rv a0), some (.int 0)]) hC dX7_record_9 (Nat.le_of_ble_eq_true rfl) rfl ?_
    obtain ⟨n9, hV⟩ := hV
    exact ok_X7_record_10 hC hQ n9 a0 0 h hV
set_option maxRecDepth 100000 in
set_option maxHeartbeats 4000000 in
theorem con_X7_record {E : Ev} {l0 : Launch} (a0 : Nat) (h : Hp) (K : Hp → Prop) (hV : V_X7_record a0 h K) : Con E l0 yX7_record cX7_record 2 none rm_X7_record [rv a0] h (KV K) := by
  refine Con.of (by decide +kernel) (cat_R cat_nil) (Nat.le_of_ble_eq_true rfl) (fun X hC hQ => ?_)
  refine r_sub (lo1 := [some (rv a0), none]) (show lsub [some (rv a0), none] _ from ⟨Or.inr rfl, ⟨Or.inr rfl, trivial⟩⟩) ?_
  exact ok_X7_record_0 hC hQ a0 h hV
theorem dX7_addCase_0 : decode cX7_addCase 0 = .ok (.aload_n 0, 1) := by decide +kernel
theorem dX7_addCase_1 : decode cX7_addCase 1 = .ok (.getfield 7, 3) := by decide +kernel
theorem dX7_addCase_4 : decode cX7_addCase 4 = .ok (.iconst 0, 1) := by decide +kernel
theorem dX7_addCase_5 : decode cX7_addCase 5 = .ok (.iaload, 1) := by decide +kernel
theorem dX7_addCase_6 : decode cX7_addCase 6 = .ok (.bipush 6, 2) := by decide +kernel
theorem dX7_addCase_8 : decode cX7_addCase 8 = .ok (.if_icmp .ne 6, 3) := by decide +kernel
theorem dX7_addCase_11 : decode cX7_addCase 11 = .ok (.bipush (-3), 2) := by decide +kernel
theorem dX7_addCase_13 : decode cX7_addCase 13 = .ok (.ireturn, 1) := by decide +kernel
theorem dX7_addCase_14 : decode cX7_addCase 14 = .ok (.aload_n 0, 1) := by decide +kernel
theorem dX7_addCase_15 : decode cX7_addCase 15 = .ok (.invokevirtual 65, 3) := by decide +kernel
theorem dX7_addCase_18 : decode cX7_addCase 18 = .ok (.aload_n 0, 1) := by decide +kernel
theorem dX7_addCase_19 : decode cX7_addCase 19 = .ok (.getfield 7, 3) := by decide +kernel
theorem dX7_addCase_22 : decode cX7_addCase 22 = .ok (.iconst 0, 1) := by decide +kernel
theorem dX7_addCase_23 : decode cX7_addCase 23 = .ok (.dup2, 1) := by decide +kernel
theorem dX7_addCase_24 : decode cX7_addCase 24 = .ok (.iaload, 1) := by decide +kernel
theorem dX7_addCase_25 : decode cX7_addCase 25 = .ok (.iconst 1, 1) := by decide +kernel
theorem dX7_addCase_26 : decode cX7_addCase 26 = .ok (.iadd, 1) := by decide +kernel
theorem dX7_addCase_27 : decode cX7_addCase 27 = .ok (.iastore, 1) := by decide +kernel
theorem dX7_addCase_28 : decode cX7_addCase 28 = .ok (.aload_n 0, 1) := by decide +kernel
theorem dX7_addCase_29 : decode cX7_addCase 29 = .ok (.getfield 7, 3) := by decide +kernel
theorem dX7_addCase_32 : decode cX7_addCase 32 = .ok (.iconst 0, 1) := by decide +kernel
theorem dX7_addCase_33 : decode cX7_addCase 33 = .ok (.iaload, 1) := by decide +kernel
theorem dX7_addCase_34 : decode cX7_addCase 34 = .ok (.iconst 1, 1) := by decide +kernel
theorem dX7_addCase_35 : decode cX7_addCase 35 = .ok (.isub, 1) := by decide +kernel
theorem dX7_addCase_36 : decode cX7_addCase 36 = .ok (.ireturn, 1) := by decide +kernel
def rm_X7_addCase : Room := { frames := 1, cells := 0, slots := 0, locals := 21 }
set_option maxRecDepth 100000 in
set_option maxHeartbeats 4000000 in
theorem ok_X7_addCase_0 {E : Ev} {X : Xt} {l0 : Launch} {K : Int32 → Hp → Prop} (hC : Cx E X l0 RX7 cX7_addCase 1 rm_X7_addCase) (hQ : CQ E X "addCase" (some .int) rm_X7_addCase (KI K)) (a0 : Nat) (h : Hp) (hV : V_X7_addCase a0 h K) : WW E X h 0 0 0 [some (rv a0)] [] := by
  unfold V_X7_addCase at hV
  refine r_aload_n hC dX7_addCase_0 rfl ?_
  obtain ⟨k9, hV⟩ := hV
  refine r_getR hC dX7_addCase_1 fl_7_7 rf_7_0 lq_7 k9 ?_
  refine r_iconst (v := 0) hC dX7_addCase_4 (by decide) ?_
  obtain ⟨k9, k8, hV⟩ := hV
  refine r_iald (kd := 60) hC dX7_addCase_5 (by decide) rfl k9 k8 ?_
  refine r_bipush (v := 6) hC dX7_addCase_6 (by decide) ?_
  refine r_icmp_ne (tgt := 14) hC dX7_addCase_8 (by decide) (fun k9 => ?_) (fun k9 => ?_)
  · replace hV := hV.1 k9
    refine r_aload_n hC dX7_addCase_14 rfl ?_
    obtain ⟨k9, hV⟩ := hV
    refine r_callV (ci := 7) (As := []) hC dX7_addCase_15 rfl cf_X7_record ml_7_65 im_X7_record sl_X7_record lq_7 rfl rfl k9 rfl ⟨Nat.le_of_ble_eq_true rfl, Nat.le_of_ble_eq_true rfl, Nat.le_of_ble_eq_true rfl, Nat.le_of_ble_eq_true rfl⟩ cs0 (Nat.le_of_ble_eq_true rfl) (con_X7_record a0 h _ hV) rfl (kV (k := 0) (n := 0) (fun h1 hV => ?_))
    refine r_aload_n hC dX7_addCase_18 rfl ?_
    obtain ⟨k9, hV⟩ := hV
    refine r_getR hC dX7_addCase_19 fl_7_7 rf_7_0 lq_7 k9 ?_
    refine r_iconst (v := 0) hC dX7_addCase_22 (by decide) ?_
    refine r_dup2 hC dX7_addCase_23 rfl (rv_cat _) ?_
    obtain ⟨k9, k8, hV⟩ := hV
    refine r_iald (kd := 60) hC dX7_addCase_24 (by decide) rfl k9 k8 ?_
    refine r_iconst (v := 1) hC dX7_addCase_25 (by decide) ?_
    refine r_iadd hC dX7_addCase_26 ?_
    obtain ⟨k9, k8, hV⟩ := hV
    refine r_iast (kd := 60) hC dX7_addCase_27 (by decide) rfl k9 k8 (nmH (fun h2 k9 => ?_))
    replace hV := hV h2 k9
    refine r_aload_n hC dX7_addCase_28 rfl ?_
    obtain ⟨k9, hV⟩ := hV
    refine r_getR hC dX7_addCase_29 fl_7_7 rf_7_0 lq_7 k9 ?_
    refine r_iconst (v := 0) hC dX7_addCase_32 (by decide) ?_
    obtain ⟨k9, k8, hV⟩ := hV
    refine r_iald (kd := 60) hC dX7_addCase_33 (by decide) rfl k9 k8 ?_
    refine r_iconst (v := 1) hC dX7_addCase_34 (by decide) ?_
    refine r_isub hC dX7_addCase_35 ?_
    exact r_iret hC hQ dX7_addCase_36 (Nat.le_of_ble_eq_true rfl) (Nat.le_of_ble_eq_true rfl) ⟨_, rfl, hV⟩
  · replace hV := hV.2 k9
    refine r_bipush (v := (-3)) hC dX7_addCase_11 (by decide) ?_
    exact r_iret hC hQ dX7_addCase_13 (Nat.le_of_ble_eq_true rfl) (Nat.le_of_ble_eq_true rfl) ⟨_, rfl, hV⟩
set_option maxRecDepth 100000 in
set_option maxHeartbeats 4000000 in
theorem con_X7_addCase {E : Ev} {l0 : Launch} (a0 : Nat) (h : Hp) (K : Int32 → Hp → Prop) (hV : V_X7_addCase a0 h K) : Con E l0 yX7_addCase cX7_addCase 1 (some .int) rm_X7_addCase [rv a0] h (KI K) := by
  refine Con.of (by decide +kernel) (cat_R cat_nil) (Nat.le_of_ble_eq_true rfl) (fun X hC hQ => ?_)
  refine r_sub (lo1 := [some (rv a0)]) (show lsub [some (rv a0)] _ from ⟨Or.inr rfl, trivial⟩) ?_
  exact ok_X7_addCase_0 hC hQ a0 h hV
theorem dX7_lacks_0 : decode cX7_lacks 0 = .ok (.aload_n 0, 1) := by decide +kernel
theorem dX7_lacks_1 : decode cX7_lacks 1 = .ok (.getfield 37, 3) := by decide +kernel
theorem dX7_lacks_4 : decode cX7_lacks 4 = .ok (.iload_n 1, 1) := by decide +kernel
theorem dX7_lacks_5 : decode cX7_lacks 5 = .ok (.iaload, 1) := by decide +kernel
theorem dX7_lacks_6 : decode cX7_lacks 6 = .ok (.aload_n 0, 1) := by decide +kernel
theorem dX7_lacks_7 : decode cX7_lacks 7 = .ok (.getfield 40, 3) := by decide +kernel
theorem dX7_lacks_10 : decode cX7_lacks 10 = .ok (.iload_n 1, 1) := by decide +kernel
theorem dX7_lacks_11 : decode cX7_lacks 11 = .ok (.iaload, 1) := by decide +kernel
theorem dX7_lacks_12 : decode cX7_lacks 12 = .ok (.if_icmp .le 19, 3) := by decide +kernel
theorem dX7_lacks_15 : decode cX7_lacks 15 = .ok (.aload_n 0, 1) := by decide +kernel
theorem dX7_lacks_16 : decode cX7_lacks 16 = .ok (.getfield 37, 3) := by decide +kernel
theorem dX7_lacks_19 : decode cX7_lacks 19 = .ok (.iload_n 1, 1) := by decide +kernel
theorem dX7_lacks_20 : decode cX7_lacks 20 = .ok (.iaload, 1) := by decide +kernel
theorem dX7_lacks_21 : decode cX7_lacks 21 = .ok (.aload_n 0, 1) := by decide +kernel
theorem dX7_lacks_22 : decode cX7_lacks 22 = .ok (.getfield 40, 3) := by decide +kernel
theorem dX7_lacks_25 : decode cX7_lacks 25 = .ok (.iload_n 1, 1) := by decide +kernel
theorem dX7_lacks_26 : decode cX7_lacks 26 = .ok (.iaload, 1) := by decide +kernel
theorem dX7_lacks_27 : decode cX7_lacks 27 = .ok (.isub, 1) := by decide +kernel
theorem dX7_lacks_28 : decode cX7_lacks 28 = .ok (.goto 4, 3) := by decide +kernel
theorem dX7_lacks_31 : decode cX7_lacks 31 = .ok (.iconst 0, 1) := by decide +kernel
theorem dX7_lacks_32 : decode cX7_lacks 32 = .ok (.ireturn, 1) := by decide +kernel
def rm_X7_lacks : Room := { frames := 0, cells := 0, slots := 0, locals := 0 }
set_option maxRecDepth 100000 in
set_option maxHeartbeats 4000000 in
theorem ok_X7_lacks_32 {E : Ev} {X : Xt} {l0 : Launch} {K : Int32 → Hp → Prop} (hC : Cx E X l0 RX7 cX7_lacks 2 rm_X7_lacks) (hQ : CQ E X "lacks" (some .int) rm_X7_lacks (KI K)) (s0 : Int32) (h : Hp) (hV : V_X7_lacks_32 K s0 h) : WW E X h 0 0 32 [none, none] [.int s0] := by
  unfold V_X7_lacks_32 at hV
  exact r_iret hC hQ dX7_lacks_32 (Nat.le_of_ble_eq_true rfl) (Nat.le_of_ble_eq_true rfl) ⟨_, rfl, hV⟩
set_option maxRecDepth 100000 in
set_option maxHeartbeats 4000000 in
theorem ok_X7_lacks_0 {E : Ev} {X : Xt} {l0 : Launch} {K : Int32 → Hp → Prop} (hC : Cx E X l0 RX7 cX7_lacks 2 rm_X7_lacks) (hQ : CQ E X "lacks" (some .int) rm_X7_lacks (KI K)) (a0 : Nat) (a1 : Int32) (h : Hp) (hV : V_X7_lacks a0 a1 h K) : WW E X h 0 0 0 [some (rv a0), some (.int a1)] [] := by
  unfold V_X7_lacks at hV
  refine r_aload_n hC dX7_lacks_0 rfl ?_
  obtain ⟨k9, hV⟩ := hV
  refine r_getR hC dX7_lacks_1 fl_7_37 rf_7_17 lq_7 k9 ?_
  refine r_iload_n hC dX7_lacks_4 rfl ?_
  obtain ⟨k9, k8, hV⟩ := hV
  refine r_iald (kd := 77) hC dX7_lacks_5 (by decide) rfl k9 k8 ?_
  refine r_aload_n hC dX7_lacks_6 rfl ?_
  obtain ⟨k9, hV⟩ := hV
  refine r_getR hC dX7_lacks_7 fl_7_40 rf_7_18 lq_7 k9 ?_
  refine r_iload_n hC dX7_lacks_10 rfl ?_
  obtain ⟨k9, k8, hV⟩ := hV
  refine r_iald (kd := 78) hC dX7_lacks_11 (by decide) rfl k9 k8 ?_
  refine r_icmp_le (tgt := 31) hC dX7_lacks_12 (by decide) (fun k9 => ?_) (fun k9 => ?_)
  · replace hV := hV.1 k9
    refine r_iconst (v := 0) hC dX7_lacks_31 (by decide) ?_
    refine r_sub (lo1 := [none, none]) ⟨Or.inl rfl, ⟨Or.inl rfl, trivial⟩⟩ ?_
    exact ok_X7_lacks_32 hC hQ 0 h hV
  · replace hV := hV.2 k9
    refine r_aload_n hC dX7_lacks_15 rfl ?_
    obtain ⟨k9, hV⟩ := hV
    refine r_getR hC dX7_lacks_16 fl_7_37 rf_7_17 lq_7 k9 ?_
    refine r_iload_n hC dX7_lacks_19 rfl ?_
    obtain ⟨k9, k8, hV⟩ := hV
    refine r_iald (kd := 77) hC dX7_lacks_20 (by decide) rfl k9 k8 ?_
    refine r_aload_n hC dX7_lacks_21 rfl ?_
    obtain ⟨k9, hV⟩ := hV
    refine r_getR hC dX7_lacks_22 fl_7_40 rf_7_18 lq_7 k9 ?_
    refine r_iload_n hC dX7_lacks_25 rfl ?_
    obtain ⟨k9, k8, hV⟩ := hV
    refine r_iald (kd := 78) hC dX7_lacks_26 (by decide) rfl k9 k8 ?_
    refine r_isub hC dX7_lacks_27 ?_
    refine r_goto (tgt := 32) hC dX7_lacks_28 (by decide) ?_
    refine r_sub (lo1 := [none, none]) ⟨Or.inl rfl, ⟨Or.inl rfl, trivial⟩⟩ ?_
    exact ok_X7_lacks_32 hC hQ ((hI h (hR h a0 17) (ix a1)) - (hI h (hR h a0 18) (ix a1))) h hV
set_option maxRecDepth 100000 in
set_option maxHeartbeats 4000000 in
theorem con_X7_lacks {E : Ev} {l0 : Launch} (a0 : Nat) (a1 : Int32) (h : Hp) (K : Int32 → Hp → Prop) (hV : V_X7_lacks a0 a1 h K) : Con E l0 yX7_lacks cX7_lacks 2 (some .int) rm_X7_lacks [rv a0, .int a1] h (KI K) := by
  refine Con.of (by decide +kernel) (cat_R (cat_I cat_nil)) (Nat.le_of_ble_eq_true rfl) (fun X hC hQ => ?_)
  refine r_sub (lo1 := [some (rv a0), some (.int a1)]) (show lsub [some (rv a0), some (.int a1)] _ from ⟨Or.inr rfl, ⟨Or.inr rfl, trivial⟩⟩) ?_
  exact ok_X7_lacks_0 hC hQ a0 a1 h hV
theorem dX7_allLacks_0 : decode cX7_allLacks 0 = .ok (.iconst 0, 1) := by decide +kernel
theorem dX7_allLacks_1 : decode cX7_allLacks 1 = .ok (.istore_n 1, 1) := by decide +kernel
theorem dX7_allLacks_2 : decode cX7_allLacks 2 = .ok (.iconst 0, 1) := by decide +kernel
theorem dX7_allLacks_3 : decode cX7_allLacks 3 = .ok (.istore_n 2, 1) := by decide +kernel
theorem dX7_allLacks_4 : decode cX7_allLacks 4 = .ok (.iload_n 2, 1) := by decide +kernel
theorem dX7_allLacks_5 : decode cX7_allLacks 5 = .ok (.bipush 29, 2) := by decide +kernel
theorem dX7_allLacks_7 : decode cX7_allLacks 7 = .ok (.if_icmp .ge 17, 3) := by decide +kernel
theorem dX7_allLacks_10 : decode cX7_allLacks 10 = .ok (.iload_n 1, 1) := by decide +kernel
theorem dX7_allLacks_11 : decode cX7_allLacks 11 = .ok (.aload_n 0, 1) := by decide +kernel
theorem dX7_allLacks_12 : decode cX7_allLacks 12 = .ok (.iload_n 2, 1) := by decide +kernel
theorem dX7_allLacks_13 : decode cX7_allLacks 13 = .ok (.invokevirtual 135, 3) := by decide +kernel
theorem dX7_allLacks_16 : decode cX7_allLacks 16 = .ok (.iadd, 1) := by decide +kernel
theorem dX7_allLacks_17 : decode cX7_allLacks 17 = .ok (.istore_n 1, 1) := by decide +kernel
theorem dX7_allLacks_18 : decode cX7_allLacks 18 = .ok (.iinc 2 1, 3) := by decide +kernel
theorem dX7_allLacks_21 : decode cX7_allLacks 21 = .ok (.goto (-17), 3) := by decide +kernel
theorem dX7_allLacks_24 : decode cX7_allLacks 24 = .ok (.iload_n 1, 1) := by decide +kernel
theorem dX7_allLacks_25 : decode cX7_allLacks 25 = .ok (.ireturn, 1) := by decide +kernel
def rm_X7_allLacks : Room := { frames := 1, cells := 0, slots := 0, locals := 21 }
set_option maxRecDepth 100000 in
set_option maxHeartbeats 4000000 in
theorem ok_X7_allLacks_4 {E : Ev} {X : Xt} {l0 : Launch} {K : Int32 → Hp → Prop} (hC : Cx E X l0 RX7 cX7_allLacks 3 rm_X7_allLacks) (hQ : CQ E X "allLacks" (some .int) rm_X7_allLacks (KI K)) : ∀ (n : Nat) (a0 : Nat) (a1 : Int32) (a2 : Int32) (h : Hp), V_X7_allLacks_4 K n a0 a1 a2 h → WW E X h 0 0 4 [some (rv a0), some (.int a1), some (.int a2)] [] := by
  intro n
  induction n with
  | zero => intro a0 a1 a2 h hV; exact hV.elim
  | succ n ih =>
    intro a0 a1 a2 h hV
    unfold V_X7_allLacks_4 at hV
    refine r_iload_n hC dX7_allLacks_4 rfl ?_
    refine r_bipush (v := 29) hC dX7_allLacks_5 (by decide) ?_
    refine r_icmp_ge (tgt := 24) hC dX7_allLacks_7 (by decide) (fun k9 => ?_) (fun k9 => ?_)
    · replace hV := hV.1 k9
      refine r_iload_n hC dX7_allLacks_24 rfl ?_
      exact r_iret hC hQ dX7_allLacks_25 (Nat.le_of_ble_eq_true rfl) (Nat.le_of_ble_eq_true rfl) ⟨_, rfl, hV⟩
    · replace hV := hV.2 k9
      refine r_iload_n hC dX7_allLacks_10 rfl ?_
      refine r_aload_n hC dX7_allLacks_11 rfl ?_
      refine r_iload_n hC dX7_allLacks_12 rfl ?_
      obtain ⟨k9, hV⟩ := hV
      refine r_callV (ci := 7) (As := [.int a2]) hC dX7_allLacks_13 rfl cf_X7_lacks ml_7_135 im_X7_lacks sl_X7_lacks lq_7 rfl rfl k9 rfl ⟨Nat.le_of_ble_eq_true rfl, Nat.le_of_ble_eq_true rfl, Nat.le_of_ble_eq_true rfl, Nat.le_of_ble_eq_true rfl⟩ (csI cs0) (Nat.le_of_ble_eq_true rfl) (con_X7_lacks a0 a2 h _ hV) rfl (kI (k := 0) (n := 0) (fun r1 h1 hV => ?_))
      refine r_iadd hC dX7_allLacks_16 ?_
      refine r_istore_n (lo1 := [some (rv a0), some (.int (a1 + r1)), some (.int a2)]) hC dX7_allLacks_17 (Nat.le_of_ble_eq_true rfl) rfl ?_
      refine r_iinc (v := 1) (lo1 := [some (rv a0), some (.int (a1 + r1)), some (.int (a2 + 1))]) hC dX7_allLacks_18 rfl (by decide) rfl ?_
      refine r_goto (tgt := 4) hC dX7_allLacks_21 (by decide) ?_
      exact ih a0 (a1 + r1) (a2 + 1) h1 hV
set_option maxRecDepth 100000 in
set_option maxHeartbeats 4000000 in
theorem ok_X7_allLacks_0 {E : Ev} {X : Xt} {l0 : Launch} {K : Int32 → Hp → Prop} (hC : Cx E X l0 RX7 cX7_allLacks 3 rm_X7_allLacks) (hQ : CQ E X "allLacks" (some .int) rm_X7_allLacks (KI K)) (a0 : Nat) (h : Hp) (hV : V_X7_allLacks a0 h K) : WW E X h 0 0 0 [some (rv a0), none, none] [] := by
  unfold V_X7_allLacks at hV
  refine r_iconst (v := 0) hC dX7_allLacks_0 (by decide) ?_
  refine r_istore_n (lo1 := [some (rv a0), some (.int 0), none]) hC dX7_allLacks_1 (Nat.le_of_ble_eq_true rfl) rfl ?_
  refine r_iconst (v := 0) hC dX7_allLacks_2 (by decide) ?_
  refine r_istore_n (lo1 := [some (rv a0), some (.int 0), some (.int 0)]) hC dX7_allLacks_3 (Nat.le_of_ble_eq_true rfl) rfl ?_
  obtain ⟨n9, hV⟩ := hV
  exact ok_X7_allLacks_4 hC hQ n9 a0 0 0 h hV
set_option maxRecDepth 100000 in
set_option maxHeartbeats 4000000 in
theorem con_X7_allLacks {E : Ev} {l0 : Launch} (a0 : Nat) (h : Hp) (K : Int32 → Hp → Prop) (hV : V_X7_allLacks a0 h K) : Con E l0 yX7_allLacks cX7_allLacks 3 (some .int) rm_X7_allLacks [rv a0] h (KI K) := by
  refine Con.of (by decide +kernel) (cat_R cat_nil) (Nat.le_of_ble_eq_true rfl) (fun X hC hQ => ?_)
  refine r_sub (lo1 := [some (rv a0), none, none]) (show lsub [some (rv a0), none, none] _ from ⟨Or.inr rfl, ⟨Or.inr rfl, ⟨Or.inr rfl, trivial⟩⟩⟩) ?_
  exact ok_X7_allLacks_0 hC hQ a0 h hV
theorem dX7_width_0 : decode cX7_width 0 = .ok (.iload_n 0, 1) := by decide +kernel
theorem dX7_width_1 : decode cX7_width 1 = .ok (.bipush 26, 2) := by decide +kernel
theorem dX7_width_3 : decode cX7_width 3 = .ok (.if_icmp .ge 11, 3) := by decide +kernel
theorem dX7_width_6 : decode cX7_width 6 = .ok (.iconst 2, 1) := by decide +kernel
theorem dX7_width_7 : decode cX7_width 7 = .ok (.iload_n 0, 1) := by decide +kernel
theorem dX7_width_8 : decode cX7_width 8 = .ok (.iconst 5, 1) := by decide +kernel
theorem dX7_width_9 : decode cX7_width 9 = .ok (.irem, 1) := by decide +kernel
theorem dX7_width_10 : decode cX7_width 10 = .ok (.iadd, 1) := by decide +kernel
theorem dX7_width_11 : decode cX7_width 11 = .ok (.goto 24, 3) := by decide +kernel
theorem dX7_width_14 : decode cX7_width 14 = .ok (.iload_n 0, 1) := by decide +kernel
theorem dX7_width_15 : decode cX7_width 15 = .ok (.bipush 26, 2) := by decide +kernel
theorem dX7_width_17 : decode cX7_width 17 = .ok (.if_icmp .ne 7, 3) := by decide +kernel
theorem dX7_width_20 : decode cX7_width 20 = .ok (.iconst 4, 1) := by decide +kernel
theorem dX7_width_21 : decode cX7_width 21 = .ok (.goto 14, 3) := by decide +kernel
theorem dX7_width_24 : decode cX7_width 24 = .ok (.iload_n 0, 1) := by decide +kernel
theorem dX7_width_25 : decode cX7_width 25 = .ok (.bipush 27, 2) := by decide +kernel
theorem dX7_width_27 : decode cX7_width 27 = .ok (.if_icmp .ne 7, 3) := by decide +kernel
theorem dX7_width_30 : decode cX7_width 30 = .ok (.iconst 2, 1) := by decide +kernel
theorem dX7_width_31 : decode cX7_width 31 = .ok (.goto 4, 3) := by decide +kernel
theorem dX7_width_34 : decode cX7_width 34 = .ok (.iconst 1, 1) := by decide +kernel
theorem dX7_width_35 : decode cX7_width 35 = .ok (.ireturn, 1) := by decide +kernel
def rm_X7_width : Room := { frames := 0, cells := 0, slots := 0, locals := 0 }
set_option maxRecDepth 100000 in
set_option maxHeartbeats 4000000 in
theorem ok_X7_width_35 {E : Ev} {X : Xt} {l0 : Launch} {K : Int32 → Hp → Prop} (hC : Cx E X l0 RX7 cX7_width 1 rm_X7_width) (hQ : CQ E X "width" (some .int) rm_X7_width (KI K)) (s0 : Int32) (h : Hp) (hV : V_X7_width_35 K s0 h) : WW E X h 0 0 35 [none] [.int s0] := by
  unfold V_X7_width_35 at hV
  exact r_iret hC hQ dX7_width_35 (Nat.le_of_ble_eq_true rfl) (Nat.le_of_ble_eq_true rfl) ⟨_, rfl, hV⟩
set_option maxRecDepth 100000 in
set_option maxHeartbeats 4000000 in
theorem ok_X7_width_0 {E : Ev} {X : Xt} {l0 : Launch} {K : Int32 → Hp → Prop} (hC : Cx E X l0 RX7 cX7_width 1 rm_X7_width) (hQ : CQ E X "width" (some .int) rm_X7_width (KI K)) (a0 : Int32) (h : Hp) (hV : V_X7_width a0 h K) : WW E X h 0 0 0 [some (.int a0)] [] := by
  unfold V_X7_width at hV
  refine r_iload_n hC dX7_width_0 rfl ?_
  refine r_bipush (v := 26) hC dX7_width_1 (by decide) ?_
  refine r_icmp_ge (tgt := 14) hC dX7_width_3 (by decide) (fun k9 => ?_) (fun k9 => ?_)
  · replace hV := hV.1 k9
    refine r_iload_n hC dX7_width_14 rfl ?_
    refine r_bipush (v := 26) hC dX7_width_15 (by decide) ?_
    refine r_icmp_ne (tgt := 24) hC dX7_width_17 (by decide) (fun k9 => ?_) (fun k9 => ?_)
    · replace hV := hV.1 k9
      refine r_iload_n hC dX7_width_24 rfl ?_
      refine r_bipush (v := 27) hC dX7_width_25 (by decide) ?_
      refine r_icmp_ne (tgt := 34) hC dX7_width_27 (by decide) (fun k9 => ?_) (fun k9 => ?_)
      · replace hV := hV.1 k9
        refine r_iconst (v := 1) hC dX7_width_34 (by decide) ?_
        refine r_sub (lo1 := [none]) ⟨Or.inl rfl, trivial⟩ ?_
        exact ok_X7_width_35 hC hQ 1 h hV
      · replace hV := hV.2 k9
        refine r_iconst (v := 2) hC dX7_width_30 (by decide) ?_
        refine r_goto (tgt := 35) hC dX7_width_31 (by decide) ?_
        refine r_sub (lo1 := [none]) ⟨Or.inl rfl, trivial⟩ ?_
        exact ok_X7_width_35 hC hQ 2 h hV
    · replace hV := hV.2 k9
      refine r_iconst (v := 4) hC dX7_width_20 (by decide) ?_
      refine r_goto (tgt := 35) hC dX7_width_21 (by decide) ?_
      refine r_sub (lo1 := [none]) ⟨Or.inl rfl, trivial⟩ ?_
      exact ok_X7_width_35 hC hQ 4 h hV
  · replace hV := hV.2 k9
    refine r_iconst (v := 2) hC dX7_width_6 (by decide) ?_
    refine r_iload_n hC dX7_width_7 rfl ?_
    refine r_iconst (v := 5) hC dX7_width_8 (by decide) ?_
    refine r_irem hC dX7_width_9 (by decide) ?_
    refine r_iadd hC dX7_width_10 ?_
    refine r_goto (tgt := 35) hC dX7_width_11 (by decide) ?_
    refine r_sub (lo1 := [none]) ⟨Or.inl rfl, trivial⟩ ?_
    exact ok_X7_width_35 hC hQ (2 + (a0 - a0 / 5 * 5)) h hV
set_option maxRecDepth 100000 in
set_option maxHeartbeats 4000000 in
theorem con_X7_width {E : Ev} {l0 : Launch} (a0 : Int32) (h : Hp) (K : Int32 → Hp → Prop) (hV : V_X7_width a0 h K) : Con E l0 yX7_width cX7_width 1 (some .int) rm_X7_width [.int a0] h (KI K) := by
  refine Con.of (by decide +kernel) (cat_I cat_nil) (Nat.le_of_ble_eq_true rfl) (fun X hC hQ => ?_)
  refine r_sub (lo1 := [some (.int a0)]) (show lsub [some (.int a0)] _ from ⟨Or.inr rfl, trivial⟩) ?_
  exact ok_X7_width_0 hC hQ a0 h hV
theorem dX7_boxMetal_0 : decode cX7_boxMetal 0 = .ok (.iconst 0, 1) := by decide +kernel
theorem dX7_boxMetal_1 : decode cX7_boxMetal 1 = .ok (.istore_n 1, 1) := by decide +kernel
theorem dX7_boxMetal_2 : decode cX7_boxMetal 2 = .ok (.iconst 0, 1) := by decide +kernel
theorem dX7_boxMetal_3 : decode cX7_boxMetal 3 = .ok (.istore_n 2, 1) := by decide +kernel
theorem dX7_boxMetal_4 : decode cX7_boxMetal 4 = .ok (.iload_n 2, 1) := by decide +kernel
theorem dX7_boxMetal_5 : decode cX7_boxMetal 5 = .ok (.bipush 29, 2) := by decide +kernel
theorem dX7_boxMetal_7 : decode cX7_boxMetal 7 = .ok (.if_icmp .ge 27, 3) := by decide +kernel
theorem dX7_boxMetal_10 : decode cX7_boxMetal 10 = .ok (.iload_n 1, 1) := by decide +kernel
theorem dX7_boxMetal_11 : decode cX7_boxMetal 11 = .ok (.aload_n 0, 1) := by decide +kernel
theorem dX7_boxMetal_12 : decode cX7_boxMetal 12 = .ok (.getfield 7, 3) := by decide +kernel
theorem dX7_boxMetal_15 : decode cX7_boxMetal 15 = .ok (.sipush 182, 3) := by decide +kernel
theorem dX7_boxMetal_18 : decode cX7_boxMetal 18 = .ok (.iload_n 2, 1) := by decide +kernel
theorem dX7_boxMetal_19 : decode cX7_boxMetal 19 = .ok (.iadd, 1) := by decide +kernel
theorem dX7_boxMetal_20 : decode cX7_boxMetal 20 = .ok (.iaload, 1) := by decide +kernel
theorem dX7_boxMetal_21 : decode cX7_boxMetal 21 = .ok (.iload_n 2, 1) := by decide +kernel
theorem dX7_boxMetal_22 : decode cX7_boxMetal 22 = .ok (.invokestatic 68, 3) := by decide +kernel
theorem dX7_boxMetal_25 : decode cX7_boxMetal 25 = .ok (.imul, 1) := by decide +kernel
theorem dX7_boxMetal_26 : decode cX7_boxMetal 26 = .ok (.iadd, 1) := by decide +kernel
theorem dX7_boxMetal_27 : decode cX7_boxMetal 27 = .ok (.istore_n 1, 1) := by decide +kernel
theorem dX7_boxMetal_28 : decode cX7_boxMetal 28 = .ok (.iinc 2 1, 3) := by decide +kernel
theorem dX7_boxMetal_31 : decode cX7_boxMetal 31 = .ok (.goto (-27), 3) := by decide +kernel
theorem dX7_boxMetal_34 : decode cX7_boxMetal 34 = .ok (.iload_n 1, 1) := by decide +kernel
theorem dX7_boxMetal_35 : decode cX7_boxMetal 35 = .ok (.ireturn, 1) := by decide +kernel
def rm_X7_boxMetal : Room := { frames := 1, cells := 0, slots := 0, locals := 20 }
set_option maxRecDepth 100000 in
set_option maxHeartbeats 4000000 in
theorem ok_X7_boxMetal_4 {E : Ev} {X : Xt} {l0 : Launch} {K : Int32 → Hp → Prop} (hC : Cx E X l0 RX7 cX7_boxMetal 3 rm_X7_boxMetal) (hQ : CQ E X "boxMetal" (some .int) rm_X7_boxMetal (KI K)) : ∀ (n : Nat) (a0 : Nat) (a1 : Int32) (a2 : Int32) (h : Hp), V_X7_boxMetal_4 K n a0 a1 a2 h → WW E X h 0 0 4 [some (rv a0), some (.int a1), some (.int a2)] [] := by
  intro n
  induction n with
  | zero => intro a0 a1 a2 h hV; exact hV.elim
  | succ n ih =>
    intro a0 a1 a2 h hV
    unfold V_X7_boxMetal_4 at hV
    refine r_iload_n hC dX7_boxMetal_4 rfl ?_
    refine r_bipush (v := 29) hC dX7_boxMetal_5 (by decide) ?_
    refine r_icmp_ge (tgt := 34) hC dX7_boxMetal_7 (by decide) (fun k9 => ?_) (fun k9 => ?_)
    · replace hV := hV.1 k9
      refine r_iload_n hC dX7_boxMetal_34 rfl ?_
      exact r_iret hC hQ dX7_boxMetal_35 (Nat.le_of_ble_eq_true rfl) (Nat.le_of_ble_eq_true rfl) ⟨_, rfl, hV⟩
    · replace hV := hV.2 k9
      refine r_iload_n hC dX7_boxMetal_10 rfl ?_
      refine r_aload_n hC dX7_boxMetal_11 rfl ?_
      obtain ⟨k9, hV⟩ := hV
      refine r_getR hC dX7_boxMetal_12 fl_7_7 rf_7_0 lq_7 k9 ?_
      refine r_sipush (v := 182) hC dX7_boxMetal_15 (by decide) ?_
      refine r_iload_n hC dX7_boxMetal_18 rfl ?_
      refine r_iadd hC dX7_boxMetal_19 ?_
      obtain ⟨k9, k8, hV⟩ := hV
      refine r_iald (kd := 60) hC dX7_boxMetal_20 (by decide) rfl k9 k8 ?_
      refine r_iload_n hC dX7_boxMetal_21 rfl ?_
      refine r_callS (As := [.int a2]) hC dX7_boxMetal_22 rfl cf_X7_width ml_7_68 st_X7_width rfl ⟨Nat.le_of_ble_eq_true rfl, Nat.le_of_ble_eq_true rfl, Nat.le_of_ble_eq_true rfl, Nat.le_of_ble_eq_true rfl⟩ (csI (csI cs0)) (Nat.le_of_ble_eq_true rfl) (con_X7_width a2 h _ hV) rfl (kI (k := 0) (n := 0) (fun r1 h1 hV => ?_))
      refine r_imul hC dX7_boxMetal_25 ?_
      refine r_iadd hC dX7_boxMetal_26 ?_
      refine r_istore_n (lo1 := [some (rv a0), some (.int (a1 + ((hI h (hR h a0 0) (ix (182 + a2))) * r1))), some (.int a2)]) hC dX7_boxMetal_27 (Nat.le_of_ble_eq_true rfl) rfl ?_
      refine r_iinc (v := 1) (lo1 := [some (rv a0), some (.int (a1 + ((hI h (hR h a0 0) (ix (182 + a2))) * r1))), some (.int (a2 + 1))]) hC dX7_boxMetal_28 rfl (by decide) rfl ?_
      refine r_goto (tgt := 4) hC dX7_boxMetal_31 (by decide) ?_
      exact ih a0 (a1 + ((hI h (hR h a0 0) (ix (182 + a2))) * r1)) (a2 + 1) h1 hV
set_option maxRecDepth 100000 in
set_option maxHeartbeats 4000000 in
theorem ok_X7_boxMetal_0 {E : Ev} {X : Xt} {l0 : Launch} {K : Int32 → Hp → Prop} (hC : Cx E X l0 RX7 cX7_boxMetal 3 rm_X7_boxMetal) (hQ : CQ E X "boxMetal" (some .int) rm_X7_boxMetal (KI K)) (a0 : Nat) (h : Hp) (hV : V_X7_boxMetal a0 h K) : WW E X h 0 0 0 [some (rv a0), none, none] [] := by
  unfold V_X7_boxMetal at hV
  refine r_iconst (v := 0) hC dX7_boxMetal_0 (by decide) ?_
  refine r_istore_n (lo1 := [some (rv a0), some (.int 0), none]) hC dX7_boxMetal_1 (Nat.le_of_ble_eq_true rfl) rfl ?_
  refine r_iconst (v := 0) hC dX7_boxMetal_2 (by decide) ?_
  refine r_istore_n (lo1 := [some (rv a0), some (.int 0), some (.int 0)]) hC dX7_boxMetal_3 (Nat.le_of_ble_eq_true rfl) rfl ?_
  obtain ⟨n9, hV⟩ := hV
  exact ok_X7_boxMetal_4 hC hQ n9 a0 0 0 h hV
set_option maxRecDepth 100000 in
set_option maxHeartbeats 4000000 in
theorem con_X7_boxMetal {E : Ev} {l0 : Launch} (a0 : Nat) (h : Hp) (K : Int32 → Hp → Prop) (hV : V_X7_boxMetal a0 h K) : Con E l0 yX7_boxMetal cX7_boxMetal 3 (some .int) rm_X7_boxMetal [rv a0] h (KI K) := by
  refine Con.of (by decide +kernel) (cat_R cat_nil) (Nat.le_of_ble_eq_true rfl) (fun X hC hQ => ?_)
  refine r_sub (lo1 := [some (rv a0), none, none]) (show lsub [some (rv a0), none, none] _ from ⟨Or.inr rfl, ⟨Or.inr rfl, ⟨Or.inr rfl, trivial⟩⟩⟩) ?_
  exact ok_X7_boxMetal_0 hC hQ a0 h hV
theorem dX7_in_0 : decode cX7_in 0 = .ok (.iload_n 0, 1) := by decide +kernel
theorem dX7_in_1 : decode cX7_in 1 = .ok (.iload_n 1, 1) := by decide +kernel
theorem dX7_in_2 : decode cX7_in 2 = .ok (.if_icmp .lt 12, 3) := by decide +kernel
theorem dX7_in_5 : decode cX7_in 5 = .ok (.iload_n 0, 1) := by decide +kernel
theorem dX7_in_6 : decode cX7_in 6 = .ok (.iload_n 2, 1) := by decide +kernel
theorem dX7_in_7 : decode cX7_in 7 = .ok (.if_icmp .gt 7, 3) := by decide +kernel
theorem dX7_in_10 : decode cX7_in 10 = .ok (.iconst 1, 1) := by decide +kernel
theorem dX7_in_11 : decode cX7_in 11 = .ok (.goto 4, 3) := by decide +kernel
theorem dX7_in_14 : decode cX7_in 14 = .ok (.iconst 0, 1) := by decide +kernel
theorem dX7_in_15 : decode cX7_in 15 = .ok (.ireturn, 1) := by decide +kernel
def rm_X7_in : Room := { frames := 0, cells := 0, slots := 0, locals := 0 }
set_option maxRecDepth 100000 in
set_option maxHeartbeats 4000000 in
theorem ok_X7_in_15 {E : Ev} {X : Xt} {l0 : Launch} {K : Int32 → Hp → Prop} (hC : Cx E X l0 RX7 cX7_in 3 rm_X7_in) (hQ : CQ E X "in" (some .boolean) rm_X7_in (KI K)) (s0 : Int32) (h : Hp) (hV : V_X7_in_15 K s0 h) : WW E X h 0 0 15 [none, none, none] [.int s0] := by
  unfold V_X7_in_15 at hV
  exact r_zret hC hQ dX7_in_15 (Nat.le_of_ble_eq_true rfl) (Nat.le_of_ble_eq_true rfl) hV.1 ⟨_, rfl, hV.2⟩
set_option maxRecDepth 100000 in
set_option maxHeartbeats 4000000 in
theorem ok_X7_in_14 {E : Ev} {X : Xt} {l0 : Launch} {K : Int32 → Hp → Prop} (hC : Cx E X l0 RX7 cX7_in 3 rm_X7_in) (hQ : CQ E X "in" (some .boolean) rm_X7_in (KI K)) (h : Hp) (hV : V_X7_in_14 K  h) : WW E X h 0 0 14 [none, none, none] [] := by
  unfold V_X7_in_14 at hV
  refine r_iconst (v := 0) hC dX7_in_14 (by decide) ?_
  exact ok_X7_in_15 hC hQ 0 h hV
set_option maxRecDepth 100000 in
set_option maxHeartbeats 4000000 in
theorem ok_X7_in_0 {E : Ev} {X : Xt} {l0 : Launch} {K : Int32 → Hp → Prop} (hC : Cx E X l0 RX7 cX7_in 3 rm_X7_in) (hQ : CQ E X "in" (some .boolean) rm_X7_in (KI K)) (a0 : Int32) (a1 : Int32) (a2 : Int32) (h : Hp) (hV : V_X7_in a0 a1 a2 h K) : WW E X h 0 0 0 [some (.int a0), some (.int a1), some (.int a2)] [] := by
  unfold V_X7_in at hV
  refine r_iload_n hC dX7_in_0 rfl ?_
  refine r_iload_n hC dX7_in_1 rfl ?_
  refine r_icmp_lt (tgt := 14) hC dX7_in_2 (by decide) (fun k9 => ?_) (fun k9 => ?_)
  · replace hV := hV.1 k9
    refine r_sub (lo1 := [none, none, none]) ⟨Or.inl rfl, ⟨Or.inl rfl, ⟨Or.inl rfl, trivial⟩⟩⟩ ?_
    exact ok_X7_in_14 hC hQ  h hV
  · replace hV := hV.2 k9
    refine r_iload_n hC dX7_in_5 rfl ?_
    refine r_iload_n hC dX7_in_6 rfl ?_
    refine r_icmp_gt (tgt := 14) hC dX7_in_7 (by decide) (fun k9 => ?_) (fun k9 => ?_)
    · replace hV := hV.1 k9
      refine r_sub (lo1 := [none, none, none]) ⟨Or.inl rfl, ⟨Or.inl rfl, ⟨Or.inl rfl, trivial⟩⟩⟩ ?_
      exact ok_X7_in_14 hC hQ  h hV
    · replace hV := hV.2 k9
      refine r_iconst (v := 1) hC dX7_in_10 (by decide) ?_
      refine r_goto (tgt := 15) hC dX7_in_11 (by decide) ?_
      refine r_sub (lo1 := [none, none, none]) ⟨Or.inl rfl, ⟨Or.inl rfl, ⟨Or.inl rfl, trivial⟩⟩⟩ ?_
      exact ok_X7_in_15 hC hQ 1 h hV
set_option maxRecDepth 100000 in
set_option maxHeartbeats 4000000 in
theorem con_X7_in {E : Ev} {l0 : Launch} (a0 : Int32) (a1 : Int32) (a2 : Int32) (h : Hp) (K : Int32 → Hp → Prop) (hV : V_X7_in a0 a1 a2 h K) : Con E l0 yX7_in cX7_in 3 (some .boolean) rm_X7_in [.int a0, .int a1, .int a2] h (KI K) := by
  refine Con.of (by decide +kernel) (cat_I (cat_I (cat_I cat_nil))) (Nat.le_of_ble_eq_true rfl) (fun X hC hQ => ?_)
  refine r_sub (lo1 := [some (.int a0), some (.int a1), some (.int a2)]) (show lsub [some (.int a0), some (.int a1), some (.int a2)] _ from ⟨Or.inr rfl, ⟨Or.inr rfl, ⟨Or.inr rfl, trivial⟩⟩⟩) ?_
  exact ok_X7_in_0 hC hQ a0 a1 a2 h hV
theorem dX7_buy_0 : decode cX7_buy 0 = .ok (.iload_n 1, 1) := by decide +kernel
theorem dX7_buy_1 : decode cX7_buy 1 = .ok (.iconst 1, 1) := by decide +kernel
theorem dX7_buy_2 : decode cX7_buy 2 = .ok (.sipush 20000, 3) := by decide +kernel
theorem dX7_buy_5 : decode cX7_buy 5 = .ok (.invokestatic 56, 3) := by decide +kernel
theorem dX7_buy_8 : decode cX7_buy 8 = .ok (.ifCond .ne 6, 3) := by decide +kernel
theorem dX7_buy_11 : decode cX7_buy 11 = .ok (.bipush (-2), 2) := by decide +kernel
theorem dX7_buy_13 : decode cX7_buy 13 = .ok (.ireturn, 1) := by decide +kernel
theorem dX7_buy_14 : decode cX7_buy 14 = .ok (.aload_n 0, 1) := by decide +kernel
theorem dX7_buy_15 : decode cX7_buy 15 = .ok (.getfield 7, 3) := by decide +kernel
theorem dX7_buy_18 : decode cX7_buy 18 = .ok (.iconst 2, 1) := by decide +kernel
theorem dX7_buy_19 : decode cX7_buy 19 = .ok (.iaload, 1) := by decide +kernel
theorem dX7_buy_20 : decode cX7_buy 20 = .ok (.iload_n 1, 1) := by decide +kernel
theorem dX7_buy_21 : decode cX7_buy 21 = .ok (.iadd, 1) := by decide +kernel
theorem dX7_buy_22 : decode cX7_buy 22 = .ok (.ldc 64, 2) := by decide +kernel
theorem dX7_buy_24 : decode cX7_buy 24 = .ok (.if_icmp .le 6, 3) := by decide +kernel
theorem dX7_buy_27 : decode cX7_buy 27 = .ok (.bipush (-3), 2) := by decide +kernel
theorem dX7_buy_29 : decode cX7_buy 29 = .ok (.ireturn, 1) := by decide +kernel
theorem dX7_buy_30 : decode cX7_buy 30 = .ok (.aload_n 0, 1) := by decide +kernel
theorem dX7_buy_31 : decode cX7_buy 31 = .ok (.invokevirtual 65, 3) := by decide +kernel
theorem dX7_buy_34 : decode cX7_buy 34 = .ok (.aload_n 0, 1) := by decide +kernel
theorem dX7_buy_35 : decode cX7_buy 35 = .ok (.getfield 7, 3) := by decide +kernel
theorem dX7_buy_38 : decode cX7_buy 38 = .ok (.iconst 2, 1) := by decide +kernel
theorem dX7_buy_39 : decode cX7_buy 39 = .ok (.dup2, 1) := by decide +kernel
theorem dX7_buy_40 : decode cX7_buy 40 = .ok (.iaload, 1) := by decide +kernel
theorem dX7_buy_41 : decode cX7_buy 41 = .ok (.iload_n 1, 1) := by decide +kernel
theorem dX7_buy_42 : decode cX7_buy 42 = .ok (.iadd, 1) := by decide +kernel
theorem dX7_buy_43 : decode cX7_buy 43 = .ok (.iastore, 1) := by decide +kernel
theorem dX7_buy_44 : decode cX7_buy 44 = .ok (.aload_n 0, 1) := by decide +kernel
theorem dX7_buy_45 : decode cX7_buy 45 = .ok (.getfield 7, 3) := by decide +kernel
theorem dX7_buy_48 : decode cX7_buy 48 = .ok (.iconst 4, 1) := by decide +kernel
theorem dX7_buy_49 : decode cX7_buy 49 = .ok (.dup2, 1) := by decide +kernel
theorem dX7_buy_50 : decode cX7_buy 50 = .ok (.iaload, 1) := by decide +kernel
theorem dX7_buy_51 : decode cX7_buy 51 = .ok (.iload_n 1, 1) := by decide +kernel
theorem dX7_buy_52 : decode cX7_buy 52 = .ok (.iadd, 1) := by decide +kernel
theorem dX7_buy_53 : decode cX7_buy 53 = .ok (.iastore, 1) := by decide +kernel
theorem dX7_buy_54 : decode cX7_buy 54 = .ok (.aload_n 0, 1) := by decide +kernel
theorem dX7_buy_55 : decode cX7_buy 55 = .ok (.getfield 7, 3) := by decide +kernel
theorem dX7_buy_58 : decode cX7_buy 58 = .ok (.iconst 2, 1) := by decide +kernel
theorem dX7_buy_59 : decode cX7_buy 59 = .ok (.iaload, 1) := by decide +kernel
theorem dX7_buy_60 : decode cX7_buy 60 = .ok (.ireturn, 1) := by decide +kernel
def rm_X7_buy : Room := { frames := 1, cells := 0, slots := 0, locals := 22 }
set_option maxRecDepth 100000 in
set_option maxHeartbeats 4000000 in
theorem ok_X7_buy_0 {E : Ev} {X : Xt} {l0 : Launch} {K : Int32 → Hp → Prop} (hC : Cx E X l0 RX7 cX7_buy 2 rm_X7_buy) (hQ : CQ E X "buy" (some .int) rm_X7_buy (KI K)) (a0 : Nat) (a1 : Int32) (h : Hp) (hV : V_X7_buy a0 a1 h K) : WW E X h 0 0 0 [some (rv a0), some (.int a1)] [] := by
  unfold V_X7_buy at hV
  refine r_iload_n hC dX7_buy_0 rfl ?_
  refine r_iconst (v := 1) hC dX7_buy_1 (by decide) ?_
  refine r_sipush (v := 20000) hC dX7_buy_2 (by decide) ?_
  refine r_callS (As := [.int a1, .int 1, .int 20000]) hC dX7_buy_5 rfl cf_X7_in ml_7_56 st_X7_in rfl ⟨Nat.le_of_ble_eq_true rfl, Nat.le_of_ble_eq_true rfl, Nat.le_of_ble_eq_true rfl, Nat.le_of_ble_eq_true rfl⟩ cs0 (Nat.le_of_ble_eq_true rfl) (con_X7_in a1 1 20000 h _ hV) rfl (kI (k := 0) (n := 0) (fun r1 h1 hV => ?_))
  refine r_if_ne (tgt := 14) hC dX7_buy_8 (by decide) (fun k9 => ?_) (fun k9 => ?_)
  · replace hV := hV.1 k9
    refine r_aload_n hC dX7_buy_14 rfl ?_
    obtain ⟨k9, hV⟩ := hV
    refine r_getR hC dX7_buy_15 fl_7_7 rf_7_0 lq_7 k9 ?_
    refine r_iconst (v := 2) hC dX7_buy_18 (by decide) ?_
    obtain ⟨k9, k8, hV⟩ := hV
    refine r_iald (kd := 60) hC dX7_buy_19 (by decide) rfl k9 k8 ?_
    refine r_iload_n hC dX7_buy_20 rfl ?_
    refine r_iadd hC dX7_buy_21 ?_
    refine r_ldc (v := 100000) hC dX7_buy_22 kc_7_64 ?_
    refine r_icmp_le (tgt := 30) hC dX7_buy_24 (by decide) (fun k9 => ?_) (fun k9 => ?_)
    · replace hV := hV.1 k9
      refine r_aload_n hC dX7_buy_30 rfl ?_
      obtain ⟨k9, hV⟩ := hV
      refine r_callV (ci := 7) (As := []) hC dX7_buy_31 rfl cf_X7_record ml_7_65 im_X7_record sl_X7_record lq_7 rfl rfl k9 rfl ⟨Nat.le_of_ble_eq_true rfl, Nat.le_of_ble_eq_true rfl, Nat.le_of_ble_eq_true rfl, Nat.le_of_ble_eq_true rfl⟩ cs0 (Nat.le_of_ble_eq_true rfl) (con_X7_record a0 h1 _ hV) rfl (kV (k := 0) (n := 0) (fun h2 hV => ?_))
      refine r_aload_n hC dX7_buy_34 rfl ?_
      obtain ⟨k9, hV⟩ := hV
      refine r_getR hC dX7_buy_35 fl_7_7 rf_7_0 lq_7 k9 ?_
      refine r_iconst (v := 2) hC dX7_buy_38 (by decide) ?_
      refine r_dup2 hC dX7_buy_39 rfl (rv_cat _) ?_
      obtain ⟨k9, k8, hV⟩ := hV
      refine r_iald (kd := 60) hC dX7_buy_40 (by decide) rfl k9 k8 ?_
      refine r_iload_n hC dX7_buy_41 rfl ?_
      refine r_iadd hC dX7_buy_42 ?_
      obtain ⟨k9, k8, hV⟩ := hV
      refine r_iast (kd := 60) hC dX7_buy_43 (by decide) rfl k9 k8 (nmH (fun h3 k9 => ?_))
      replace hV := hV h3 k9
      refine r_aload_n hC dX7_buy_44 rfl ?_
      obtain ⟨k9, hV⟩ := hV
      refine r_getR hC dX7_buy_45 fl_7_7 rf_7_0 lq_7 k9 ?_
      refine r_iconst (v := 4) hC dX7_buy_48 (by decide) ?_
      refine r_dup2 hC dX7_buy_49 rfl (rv_cat _) ?_
      obtain ⟨k9, k8, hV⟩ := hV
      refine r_iald (kd := 60) hC dX7_buy_50 (by decide) rfl k9 k8 ?_
      refine r_iload_n hC dX7_buy_51 rfl ?_
      refine r_iadd hC dX7_buy_52 ?_
      obtain ⟨k9, k8, hV⟩ := hV
      refine r_iast (kd := 60) hC dX7_buy_53 (by decide) rfl k9 k8 (nmH (fun h4 k9 => ?_))
      replace hV := hV h4 k9
      refine r_aload_n hC dX7_buy_54 rfl ?_
      obtain ⟨k9, hV⟩ := hV
      refine r_getR hC dX7_buy_55 fl_7_7 rf_7_0 lq_7 k9 ?_
      refine r_iconst (v := 2) hC dX7_buy_58 (by decide) ?_
      obtain ⟨k9, k8, hV⟩ := hV
      refine r_iald (kd := 60) hC dX7_buy_59 (by decide) rfl k9 k8 ?_
      exact r_iret hC hQ dX7_buy_60 (Nat.le_of_ble_eq_true rfl) (Nat.le_of_ble_eq_true rfl) ⟨_, rfl, hV⟩
    · replace hV := hV.2 k9
      refine r_bipush (v := (-3)) hC dX7_buy_27 (by decide) ?_
      exact r_iret hC hQ dX7_buy_29 (Nat.le_of_ble_eq_true rfl) (Nat.le_of_ble_eq_true rfl) ⟨_, rfl, hV⟩
  · replace hV := hV.2 k9
    refine r_bipush (v := (-2)) hC dX7_buy_11 (by decide) ?_
    exact r_iret hC hQ dX7_buy_13 (Nat.le_of_ble_eq_true rfl) (Nat.le_of_ble_eq_true rfl) ⟨_, rfl, hV⟩
set_option maxRecDepth 100000 in
set_option maxHeartbeats 4000000 in
theorem con_X7_buy {E : Ev} {l0 : Launch} (a0 : Nat) (a1 : Int32) (h : Hp) (K : Int32 → Hp → Prop) (hV : V_X7_buy a0 a1 h K) : Con E l0 yX7_buy cX7_buy 2 (some .int) rm_X7_buy [rv a0, .int a1] h (KI K) := by
  refine Con.of (by decide +kernel) (cat_R (cat_I cat_nil)) (Nat.le_of_ble_eq_true rfl) (fun X hC hQ => ?_)
  refine r_sub (lo1 := [some (rv a0), some (.int a1)]) (show lsub [some (rv a0), some (.int a1)] _ from ⟨Or.inr rfl, ⟨Or.inr rfl, trivial⟩⟩) ?_
  exact ok_X7_buy_0 hC hQ a0 a1 h hV
theorem dX7_noJob_0 : decode cX7_noJob 0 = .ok (.iload_n 1, 1) := by decide +kernel
theorem dX7_noJob_1 : decode cX7_noJob 1 = .ok (.iconst 0, 1) := by decide +kernel
theorem dX7_noJob_2 : decode cX7_noJob 2 = .ok (.aload_n 0, 1) := by decide +kernel
theorem dX7_noJob_3 : decode cX7_noJob 3 = .ok (.getfield 7, 3) := by decide +kernel
theorem dX7_noJob_6 : decode cX7_noJob 6 = .ok (.iconst 1, 1) := by decide +kernel
theorem dX7_noJob_7 : decode cX7_noJob 7 = .ok (.iaload, 1) := by decide +kernel
theorem dX7_noJob_8 : decode cX7_noJob 8 = .ok (.iconst 1, 1) := by decide +kernel
theorem dX7_noJob_9 : decode cX7_noJob 9 = .ok (.isub, 1) := by decide +kernel
theorem dX7_noJob_10 : decode cX7_noJob 10 = .ok (.invokestatic 56, 3) := by decide +kernel
theorem dX7_noJob_13 : decode cX7_noJob 13 = .ok (.ifCond .ne 7, 3) := by decide +kernel
theorem dX7_noJob_16 : decode cX7_noJob 16 = .ok (.iconst 1, 1) := by decide +kernel
theorem dX7_noJob_17 : decode cX7_noJob 17 = .ok (.goto 4, 3) := by decide +kernel
theorem dX7_noJob_20 : decode cX7_noJob 20 = .ok (.iconst 0, 1) := by decide +kernel
theorem dX7_noJob_21 : decode cX7_noJob 21 = .ok (.ireturn, 1) := by decide +kernel
def rm_X7_noJob : Room := { frames := 1, cells := 0, slots := 0, locals := 22 }
set_option maxRecDepth 100000 in
set_option maxHeartbeats 4000000 in
theorem ok_X7_noJob_21 {E : Ev} {X : Xt} {l0 : Launch} {K : Int32 → Hp → Prop} (hC : Cx E X l0 RX7 cX7_noJob 2 rm_X7_noJob) (hQ : CQ E X "noJob" (some .boolean) rm_X7_noJob (KI K)) (s0 : Int32) (h : Hp) (hV : V_X7_noJob_21 K s0 h) : WW E X h 0 0 21 [none, none] [.int s0] := by
  unfold V_X7_noJob_21 at hV
  exact r_zret hC hQ dX7_noJob_21 (Nat.le_of_ble_eq_true rfl) (Nat.le_of_ble_eq_true rfl) hV.1 ⟨_, rfl, hV.2⟩
set_option maxRecDepth 100000 in
set_option maxHeartbeats 4000000 in
theorem ok_X7_noJob_0 {E : Ev} {X : Xt} {l0 : Launch} {K : Int32 → Hp → Prop} (hC : Cx E X l0 RX7 cX7_noJob 2 rm_X7_noJob) (hQ : CQ E X "noJob" (some .boolean) rm_X7_noJob (KI K)) (a0 : Nat) (a1 : Int32) (h : Hp) (hV : V_X7_noJob a0 a1 h K) : WW E X h 0 0 0 [some (rv a0), some (.int a1)] [] := by
  unfold V_X7_noJob at hV
  refine r_iload_n hC dX7_noJob_0 rfl ?_
  refine r_iconst (v := 0) hC dX7_noJob_1 (by decide) ?_
  refine r_aload_n hC dX7_noJob_2 rfl ?_
  obtain ⟨k9, hV⟩ := hV
  refine r_getR hC dX7_noJob_3 fl_7_7 rf_7_0 lq_7 k9 ?_
  refine r_iconst (v := 1) hC dX7_noJob_6 (by decide) ?_
  obtain ⟨k9, k8, hV⟩ := hV
  refine r_iald (kd := 60) hC dX7_noJob_7 (by decide) rfl k9 k8 ?_
  refine r_iconst (v := 1) hC dX7_noJob_8 (by decide) ?_
  refine r_isub hC dX7_noJob_9 ?_
  refine r_callS (As := [.int a1, .int 0, .int ((hI h (hR h a0 0) (ix 1)) - 1)]) hC dX7_noJob_10 rfl cf_X7_in ml_7_56 st_X7_in rfl ⟨Nat.le_of_ble_eq_true rfl, Nat.le_of_ble_eq_true rfl, Nat.le_of_ble_eq_true rfl, Nat.le_of_ble_eq_true rfl⟩ cs0 (Nat.le_of_ble_eq_true rfl) (con_X7_in a1 0 ((hI h (hR h a0 0) (ix 1)) - 1) h _ hV) rfl (kI (k := 0) (n := 0) (fun r1 h1 hV => ?_))
  refine r_if_ne (tgt := 20) hC dX7_noJob_13 (by decide) (fun k9 => ?_) (fun k9 => ?_)
  · replace hV := hV.1 k9
    refine r_iconst (v := 0) hC dX7_noJob_20 (by decide) ?_
    refine r_sub (lo1 := [none, none]) ⟨Or.inl rfl, ⟨Or.inl rfl, trivial⟩⟩ ?_
    exact ok_X7_noJob_21 hC hQ 0 h1 hV
  · replace hV := hV.2 k9
    refine r_iconst (v := 1) hC dX7_noJob_16 (by decide) ?_
    refine r_goto (tgt := 21) hC dX7_noJob_17 (by decide) ?_
    refine r_sub (lo1 := [none, none]) ⟨Or.inl rfl, ⟨Or.inl rfl, trivial⟩⟩ ?_
    exact ok_X7_noJob_21 hC hQ 1 h1 hV
set_option maxRecDepth 100000 in
set_option maxHeartbeats 4000000 in
theorem con_X7_noJob {E : Ev} {l0 : Launch} (a0 : Nat) (a1 : Int32) (h : Hp) (K : Int32 → Hp → Prop) (hV : V_X7_noJob a0 a1 h K) : Con E l0 yX7_noJob cX7_noJob 2 (some .boolean) rm_X7_noJob [rv a0, .int a1] h (KI K) := by
  refine Con.of (by decide +kernel) (cat_R (cat_I cat_nil)) (Nat.le_of_ble_eq_true rfl) (fun X hC hQ => ?_)
  refine r_sub (lo1 := [some (rv a0), some (.int a1)]) (show lsub [some (rv a0), some (.int a1)] _ from ⟨Or.inr rfl, ⟨Or.inr rfl, trivial⟩⟩) ?_
  exact ok_X7_noJob_0 hC hQ a0 a1 h hV
theorem dX7_ofJob_0 : decode cX7_ofJob 0 = .ok (.aload_n 0, 1) := by decide +kernel
theorem dX7_ofJob_1 : decode cX7_ofJob 1 = .ok (.getfield 7, 3) := by decide +kernel
theorem dX7_ofJob_4 : decode cX7_ofJob 4 = .ok (.sipush 211, 3) := by decide +kernel
theorem dX7_ofJob_7 : decode cX7_ofJob 7 = .ok (.sipush 272, 3) := by decide +kernel
theorem dX7_ofJob_10 : decode cX7_ofJob 10 = .ok (.iload_n 1, 1) := by decide +kernel
theorem dX7_ofJob_11 : decode cX7_ofJob 11 = .ok (.imul, 1) := by decide +kernel
theorem dX7_ofJob_12 : decode cX7_ofJob 12 = .ok (.iadd, 1) := by decide +kernel
theorem dX7_ofJob_13 : decode cX7_ofJob 13 = .ok (.iload_n 2, 1) := by decide +kernel
theorem dX7_ofJob_14 : decode cX7_ofJob 14 = .ok (.iadd, 1) := by decide +kernel
theorem dX7_ofJob_15 : decode cX7_ofJob 15 = .ok (.iaload, 1) := by decide +kernel
theorem dX7_ofJob_16 : decode cX7_ofJob 16 = .ok (.ireturn, 1) := by decide +kernel
def rm_X7_ofJob : Room := { frames := 0, cells := 0, slots := 0, locals := 0 }
set_option maxRecDepth 100000 in
set_option maxHeartbeats 4000000 in
theorem ok_X7_ofJob_0 {E : Ev} {X : Xt} {l0 : Launch} {K : Int32 → Hp → Prop} (hC : Cx E X l0 RX7 cX7_ofJob 3 rm_X7_ofJob) (hQ : CQ E X "ofJob" (some .int) rm_X7_ofJob (KI K)) (a0 : Nat) (a1 : Int32) (a2 : Int32) (h : Hp) (hV : V_X7_ofJob a0 a1 a2 h K) : WW E X h 0 0 0 [some (rv a0), some (.int a1), some (.int a2)] [] := by
  unfold V_X7_ofJob at hV
  refine r_aload_n hC dX7_ofJob_0 rfl ?_
  obtain ⟨k9, hV⟩ := hV
  refine r_getR hC dX7_ofJob_1 fl_7_7 rf_7_0 lq_7 k9 ?_
  refine r_sipush (v := 211) hC dX7_ofJob_4 (by decide) ?_
  refine r_sipush (v := 272) hC dX7_ofJob_7 (by decide) ?_
  refine r_iload_n hC dX7_ofJob_10 rfl ?_
  refine r_imul hC dX7_ofJob_11 ?_
  refine r_iadd hC dX7_ofJob_12 ?_
  refine r_iload_n hC dX7_ofJob_13 rfl ?_
  refine r_iadd hC dX7_ofJob_14 ?_
  obtain ⟨k9, k8, hV⟩ := hV
  refine r_iald (kd := 60) hC dX7_ofJob_15 (by decide) rfl k9 k8 ?_
  exact r_iret hC hQ dX7_ofJob_16 (Nat.le_of_ble_eq_true rfl) (Nat.le_of_ble_eq_true rfl) ⟨_, rfl, hV⟩
set_option maxRecDepth 100000 in
set_option maxHeartbeats 4000000 in
theorem con_X7_ofJob {E : Ev} {l0 : Launch} (a0 : Nat) (a1 : Int32) (a2 : Int32) (h : Hp) (K : Int32 → Hp → Prop) (hV : V_X7_ofJob a0 a1 a2 h K) : Con E l0 yX7_ofJob cX7_ofJob 3 (some .int) rm_X7_ofJob [rv a0, .int a1, .int a2] h (KI K) := by
  refine Con.of (by decide +kernel) (cat_R (cat_I (cat_I cat_nil))) (Nat.le_of_ble_eq_true rfl) (fun X hC hQ => ?_)
  refine r_sub (lo1 := [some (rv a0), some (.int a1), some (.int a2)]) (show lsub [some (rv a0), some (.int a1), some (.int a2)] _ from ⟨Or.inr rfl, ⟨Or.inr rfl, ⟨Or.inr rfl, trivial⟩⟩⟩) ?_
  exact ok_X7_ofJob_0 hC hQ a0 a1 a2 h hV
theorem dX7_inForme_0 : decode cX7_inForme 0 = .ok (.aload_n 0, 1) := by decide +kernel
theorem dX7_inForme_1 : decode cX7_inForme 1 = .ok (.iload_n 1, 1) := by decide +kernel
theorem dX7_inForme_2 : decode cX7_inForme 2 = .ok (.bipush 67, 2) := by decide +kernel
theorem dX7_inForme_4 : decode cX7_inForme 4 = .ok (.bipush 29, 2) := by decide +kernel
theorem dX7_inForme_6 : decode cX7_inForme 6 = .ok (.iload_n 2, 1) := by decide +kernel
theorem dX7_inForme_7 : decode cX7_inForme 7 = .ok (.imul, 1) := by decide +kernel
theorem dX7_inForme_8 : decode cX7_inForme 8 = .ok (.iadd, 1) := by decide +kernel
theorem dX7_inForme_9 : decode cX7_inForme 9 = .ok (.iload_n 3, 1) := by decide +kernel
theorem dX7_inForme_10 : decode cX7_inForme 10 = .ok (.iadd, 1) := by decide +kernel
theorem dX7_inForme_11 : decode cX7_inForme 11 = .ok (.invokevirtual 60, 3) := by decide +kernel
theorem dX7_inForme_14 : decode cX7_inForme 14 = .ok (.ireturn, 1) := by decide +kernel
def rm_X7_inForme : Room := { frames := 1, cells := 0, slots := 0, locals := 22 }
set_option maxRecDepth 100000 in
set_option maxHeartbeats 4000000 in
theorem ok_X7_inForme_0 {E : Ev} {X : Xt} {l0 : Launch} {K : Int32 → Hp → Prop} (hC : Cx E X l0 RX7 cX7_inForme 4 rm_X7_inForme) (hQ : CQ E X "inForme" (some .int) rm_X7_inForme (KI K)) (a0 : Nat) (a1 : Int32) (a2 : Int32) (a3 : Int32) (h : Hp) (hV : V_X7_inForme a0 a1 a2 a3 h K) : WW E X h 0 0 0 [some (rv a0), some (.int a1), some (.int a2), some (.int a3)] [] := by
  unfold V_X7_inForme at hV
  refine r_aload_n hC dX7_inForme_0 rfl ?_
  refine r_iload_n hC dX7_inForme_1 rfl ?_
  refine r_bipush (v := 67) hC dX7_inForme_2 (by decide) ?_
  refine r_bipush (v := 29) hC dX7_inForme_4 (by decide) ?_
  refine r_iload_n hC dX7_inForme_6 rfl ?_
  refine r_imul hC dX7_inForme_7 ?_
  refine r_iadd hC dX7_inForme_8 ?_
  refine r_iload_n hC dX7_inForme_9 rfl ?_
  refine r_iadd hC dX7_inForme_10 ?_
  obtain ⟨k9, hV⟩ := hV
  refine r_callV (ci := 7) (As := [.int a1, .int ((67 + (29 * a2)) + a3)]) hC dX7_inForme_11 rfl cf_X7_ofJob ml_7_60 im_X7_ofJob sl_X7_ofJob lq_7 rfl rfl k9 rfl ⟨Nat.le_of_ble_eq_true rfl, Nat.le_of_ble_eq_true rfl, Nat.le_of_ble_eq_true rfl, Nat.le_of_ble_eq_true rfl⟩ cs0 (Nat.le_of_ble_eq_true rfl) (con_X7_ofJob a0 a1 ((67 + (29 * a2)) + a3) h _ hV) rfl (kI (k := 0) (n := 0) (fun r1 h1 hV => ?_))
  exact r_iret hC hQ dX7_inForme_14 (Nat.le_of_ble_eq_true rfl) (Nat.le_of_ble_eq_true rfl) ⟨_, rfl, hV⟩
set_option maxRecDepth 100000 in
set_option maxHeartbeats 4000000 in
theorem con_X7_inForme {E : Ev} {l0 : Launch} (a0 : Nat) (a1 : Int32) (a2 : Int32) (a3 : Int32) (h : Hp) (K : Int32 → Hp → Prop) (hV : V_X7_inForme a0 a1 a2 a3 h K) : Con E l0 yX7_inForme cX7_inForme 4 (some .int) rm_X7_inForme [rv a0, .int a1, .int a2, .int a3] h (KI K) := by
  refine Con.of (by decide +kernel) (cat_R (cat_I (cat_I (cat_I cat_nil)))) (Nat.le_of_ble_eq_true rfl) (fun X hC hQ => ?_)
  refine r_sub (lo1 := [some (rv a0), some (.int a1), some (.int a2), some (.int a3)]) (show lsub [some (rv a0), some (.int a1), some (.int a2), some (.int a3)] _ from ⟨Or.inr rfl, ⟨Or.inr rfl, ⟨Or.inr rfl, ⟨Or.inr rfl, trivial⟩⟩⟩⟩) ?_
  exact ok_X7_inForme_0 hC hQ a0 a1 a2 a3 h hV
theorem dX7_inFormeOf_0 : decode cX7_inFormeOf 0 = .ok (.iconst 0, 1) := by decide +kernel
theorem dX7_inFormeOf_1 : decode cX7_inFormeOf 1 = .ok (.istore_n 3, 1) := by decide +kernel
theorem dX7_inFormeOf_2 : decode cX7_inFormeOf 2 = .ok (.iconst 0, 1) := by decide +kernel
theorem dX7_inFormeOf_3 : decode cX7_inFormeOf 3 = .ok (.istore 4, 2) := by decide +kernel
theorem dX7_inFormeOf_5 : decode cX7_inFormeOf 5 = .ok (.iload 4, 2) := by decide +kernel
theorem dX7_inFormeOf_7 : decode cX7_inFormeOf 7 = .ok (.aload_n 0, 1) := by decide +kernel
theorem dX7_inFormeOf_8 : decode cX7_inFormeOf 8 = .ok (.getfield 7, 3) := by decide +kernel
theorem dX7_inFormeOf_11 : decode cX7_inFormeOf 11 = .ok (.iconst 0, 1) := by decide +kernel
theorem dX7_inFormeOf_12 : decode cX7_inFormeOf 12 = .ok (.iaload, 1) := by decide +kernel
theorem dX7_inFormeOf_13 : decode cX7_inFormeOf 13 = .ok (.if_icmp .ge 56, 3) := by decide +kernel
theorem dX7_inFormeOf_16 : decode cX7_inFormeOf 16 = .ok (.iconst 0, 1) := by decide +kernel
theorem dX7_inFormeOf_17 : decode cX7_inFormeOf 17 = .ok (.istore 5, 2) := by decide +kernel
theorem dX7_inFormeOf_19 : decode cX7_inFormeOf 19 = .ok (.iload 5, 2) := by decide +kernel
theorem dX7_inFormeOf_21 : decode cX7_inFormeOf 21 = .ok (.bipush 29, 2) := by decide +kernel
theorem dX7_inFormeOf_23 : decode cX7_inFormeOf 23 = .ok (.if_icmp .ge 40, 3) := by decide +kernel
theorem dX7_inFormeOf_26 : decode cX7_inFormeOf 26 = .ok (.iload_n 3, 1) := by decide +kernel
theorem dX7_inFormeOf_27 : decode cX7_inFormeOf 27 = .ok (.iload_n 2, 1) := by decide +kernel
theorem dX7_inFormeOf_28 : decode cX7_inFormeOf 28 = .ok (.ifCond .eq 18, 3) := by decide +kernel
theorem dX7_inFormeOf_31 : decode cX7_inFormeOf 31 = .ok (.iload 4, 2) := by decide +kernel
theorem dX7_inFormeOf_33 : decode cX7_inFormeOf 33 = .ok (.aload_n 0, 1) := by decide +kernel
theorem dX7_inFormeOf_34 : decode cX7_inFormeOf 34 = .ok (.iload_n 1, 1) := by decide +kernel
theorem dX7_inFormeOf_35 : decode cX7_inFormeOf 35 = .ok (.iconst 0, 1) := by decide +kernel
theorem dX7_inFormeOf_36 : decode cX7_inFormeOf 36 = .ok (.invokevirtual 60, 3) := by decide +kernel
theorem dX7_inFormeOf_39 : decode cX7_inFormeOf 39 = .ok (.if_icmp .ne 7, 3) := by decide +kernel
theorem dX7_inFormeOf_42 : decode cX7_inFormeOf 42 = .ok (.iconst 0, 1) := by decide +kernel
theorem dX7_inFormeOf_43 : decode cX7_inFormeOf 43 = .ok (.goto 12, 3) := by decide +kernel
theorem dX7_inFormeOf_46 : decode cX7_inFormeOf 46 = .ok (.aload_n 0, 1) := by decide +kernel
theorem dX7_inFormeOf_47 : decode cX7_inFormeOf 47 = .ok (.iload_n 1, 1) := by decide +kernel
theorem dX7_inFormeOf_48 : decode cX7_inFormeOf 48 = .ok (.iload 4, 2) := by decide +kernel
theorem dX7_inFormeOf_50 : decode cX7_inFormeOf 50 = .ok (.iload 5, 2) := by decide +kernel
theorem dX7_inFormeOf_52 : decode cX7_inFormeOf 52 = .ok (.invokevirtual 128, 3) := by decide +kernel
theorem dX7_inFormeOf_55 : decode cX7_inFormeOf 55 = .ok (.iadd, 1) := by decide +kernel
theorem dX7_inFormeOf_56 : decode cX7_inFormeOf 56 = .ok (.istore_n 3, 1) := by decide +kernel
theorem dX7_inFormeOf_57 : decode cX7_inFormeOf 57 = .ok (.iinc 5 1, 3) := by decide +kernel
theorem dX7_inFormeOf_60 : decode cX7_inFormeOf 60 = .ok (.goto (-41), 3) := by decide +kernel
theorem dX7_inFormeOf_63 : decode cX7_inFormeOf 63 = .ok (.iinc 4 1, 3) := by decide +kernel
theorem dX7_inFormeOf_66 : decode cX7_inFormeOf 66 = .ok (.goto (-61), 3) := by decide +kernel
theorem dX7_inFormeOf_69 : decode cX7_inFormeOf 69 = .ok (.iload_n 3, 1) := by decide +kernel
theorem dX7_inFormeOf_70 : decode cX7_inFormeOf 70 = .ok (.ireturn, 1) := by decide +kernel
def rm_X7_inFormeOf : Room := { frames := 2, cells := 0, slots := 0, locals := 45 }
set_option maxRecDepth 100000 in
set_option maxHeartbeats 4000000 in
theorem ok_X7_inFormeOf_55 {E : Ev} {X : Xt} {l0 : Launch} {K : Int32 → Hp → Prop} {C5 : Nat → Int32 → Int32 → Int32 → Int32 → Hp → Prop} {C19 : Nat → Int32 → Int32 → Int32 → Int32 → Int32 → Hp → Prop} (hC : Cx E X l0 RX7 cX7_inFormeOf 6 rm_X7_inFormeOf) (hQ : CQ E X "inFormeOf" (some .int) rm_X7_inFormeOf (KI K)) (hC5 : ∀ (a0 : Nat) (a1 : Int32) (a2 : Int32) (a3 : Int32) (a4 : Int32) (h : Hp), C5 a0 a1 a2 a3 a4 h → WW E X h 0 0 5 [some (rv a0), some (.int a1), some (.int a2), some (.int a3), some (.int a4), none] []) (hC19 : ∀ (a0 : Nat) (a1 : Int32) (a2 : Int32) (a3 : Int32) (a4 : Int32) (a5 : Int32) (h : Hp), C19 a0 a1 a2 a3 a4 a5 h → WW E X h 0 0 19 [some (rv a0), some (.int a1), some (.int a2), some (.int a3), some (.int a4), some (.int a5)] []) (a0 : Nat) (a1 : Int32) (a2 : Int32) (a4 : Int32) (a5 : Int32) (s0 : Int32) (s1 : Int32) (h : Hp) (hV : V_X7_inFormeOf_55 K C5 C19 a0 a1 a2 a4 a5 s0 s1 h) : WW E X h 0 0 55 [some (rv a0), some (.int a1), some (.int a2), none, some (.int a4), some (.int a5)] [.int s1, .int s0] := by
  unfold V_X7_inFormeOf_55 at hV
  refine r_iadd hC dX7_inFormeOf_55 ?_
  refine r_istore_n (lo1 := [some (rv a0), some (.int a1), some (.int a2), some (.int (s0 + s1)), some (.int a4), some (.int a5)]) hC dX7_inFormeOf_56 (Nat.le_of_ble_eq_true rfl) rfl ?_
  refine r_iinc (v := 1) (lo1 := [some (rv a0), some (.int a1), some (.int a2), some (.int (s0 + s1)), some (.int a4), some (.int (a5 + 1))]) hC dX7_inFormeOf_57 rfl (by decide) rfl ?_
  refine r_goto (tgt := 19) hC dX7_inFormeOf_60 (by decide) ?_
  exact hC19 a0 a1 a2 (s0 + s1) a4 (a5 + 1) h hV
set_option maxRecDepth 100000 in
set_option maxHeartbeats 4000000 in
theorem ok_X7_inFormeOf_46 {E : Ev} {X : Xt} {l0 : Launch} {K : Int32 → Hp → Prop} {C5 : Nat → Int32 → Int32 → Int32 → Int32 → Hp → Prop} {C19 : Nat → Int32 → Int32 → Int32 → Int32 → Int32 → Hp → Prop} (hC : Cx E X l0 RX7 cX7_inFormeOf 6 rm_X7_inFormeOf) (hQ : CQ E X "inFormeOf" (some .int) rm_X7_inFormeOf (KI K)) (hC5 : ∀ (a0 : Nat) (a1 : Int32) (a2 : Int32) (a3 : Int32) (a4 : Int32) (h : Hp), C5 a0 a1 a2 a3 a4 h → WW E X h 0 0 5 [some (rv a0), some (.int a1), some (.int a2), some (.int a3), some (.int a4), none] []) (hC19 : ∀ (a0 : Nat) (a1 : Int32) (a2 : Int32) (a3 : Int32) (a4 : Int32) (a5 : Int32) (h : Hp), C19 a0 a1 a2 a3 a4 a5 h → WW E X h 0 0 19 [some (rv a0), some (.int a1), some (.int a2), some (.int a3), some (.int a4), some (.int a5)] []) (a0 : Nat) (a1 : Int32) (a2 : Int32) (a4 : Int32) (a5 : Int32) (s0 : Int32) (h : Hp) (hV : V_X7_inFormeOf_46 K C5 C19 a0 a1 a2 a4 a5 s0 h) : WW E X h 0 0 46 [some (rv a0), some (.int a1), some (.int a2), none, some (.int a4), some (.int a5)] [.int s0] := by
  unfold V_X7_inFormeOf_46 at hV
  refine r_aload_n hC dX7_inFormeOf_46 rfl ?_
  refine r_iload_n hC dX7_inFormeOf_47 rfl ?_
  refine r_iload hC dX7_inFormeOf_48 rfl ?_
  refine r_iload hC dX7_inFormeOf_50 rfl ?_
  obtain ⟨k9, hV⟩ := hV
  refine r_callV (ci := 7) (As := [.int a1, .int a4, .int a5]) hC dX7_inFormeOf_52 rfl cf_X7_inForme ml_7_128 im_X7_inForme sl_X7_inForme lq_7 rfl rfl k9 rfl ⟨Nat.le_of_ble_eq_true rfl, Nat.le_of_ble_eq_true rfl, Nat.le_of_ble_eq_true rfl, Nat.le_of_ble_eq_true rfl⟩ (csI cs0) (Nat.le_of_ble_eq_true rfl) (con_X7_inForme a0 a1 a4 a5 h _ hV) rfl (kI (k := 0) (n := 0) (fun r1 h1 hV => ?_))
  exact ok_X7_inFormeOf_55 hC hQ hC5 hC19 a0 a1 a2 a4 a5 s0 r1 h1 hV
set_option maxRecDepth 100000 in
set_option maxHeartbeats 4000000 in
theorem ok_X7_inFormeOf_19 {E : Ev} {X : Xt} {l0 : Launch} {K : Int32 → Hp → Prop} {C5 : Nat → Int32 → Int32 → Int32 → Int32 → Hp → Prop} (hC : Cx E X l0 RX7 cX7_inFormeOf 6 rm_X7_inFormeOf) (hQ : CQ E X "inFormeOf" (some .int) rm_X7_inFormeOf (KI K)) (hC5 : ∀ (a0 : Nat) (a1 : Int32) (a2 : Int32) (a3 : Int32) (a4 : Int32) (h : Hp), C5 a0 a1 a2 a3 a4 h → WW E X h 0 0 5 [some (rv a0), some (.int a1), some (.int a2), some (.int a3), some (.int a4), none] []) : ∀ (n : Nat) (a0 : Nat) (a1 : Int32) (a2 : Int32) (a3 : Int32) (a4 : Int32) (a5 : Int32) (h : Hp), V_X7_inFormeOf_19 K C5 n a0 a1 a2 a3 a4 a5 h → WW E X h 0 0 19 [some (rv a0), some (.int a1), some (.int a2), some (.int a3), some (.int a4), some (.int a5)] [] := by
  intro n
  induction n with
  | zero => intro a0 a1 a2 a3 a4 a5 h hV; exact hV.elim
  | succ n ih =>
    intro a0 a1 a2 a3 a4 a5 h hV
    unfold V_X7_inFormeOf_19 at hV
    refine r_iload hC dX7_inFormeOf_19 rfl ?_
    refine r_bipush (v := 29) hC dX7_inFormeOf_21 (by decide) ?_
    refine r_icmp_ge (tgt := 63) hC dX7_inFormeOf_23 (by decide) (fun k9 => ?_) (fun k9 => ?_)
    · replace hV := hV.1 k9
      refine r_iinc (v := 1) (lo1 := [some (rv a0), some (.int a1), some (.int a2), some (.int a3), some (.int (a4 + 1)), some (.int a5)]) hC dX7_inFormeOf_63 rfl (by decide) rfl ?_
      refine r_goto (tgt := 5) hC dX7_inFormeOf_66 (by decide) ?_
      refine r_sub (lo1 := [some (rv a0), some (.int a1), some (.int a2), some (.int a3), some (.int (a4 + 1)), none]) ⟨Or.inr rfl, ⟨Or.inr rfl, ⟨Or.inr rfl, ⟨Or.inr rfl, ⟨Or.inr rfl, ⟨Or.inl rfl, trivial⟩⟩⟩⟩⟩⟩ ?_
      exact hC5 a0 a1 a2 a3 (a4 + 1) h hV
    · replace hV := hV.2 k9
      refine r_iload_n hC dX7_inFormeOf_26 rfl ?_
      refine r_iload_n hC dX7_inFormeOf_27 rfl ?_
      refine r_if_eq (tgt := 46) hC dX7_inFormeOf_28 (by decide) (fun k9 => ?_) (fun k9 => ?_)
      · replace hV := hV.1 k9
        refine r_sub (lo1 := [some (rv a0), some (.int a1), some (.int a2), none, some (.int a4), some (.int a5)]) ⟨Or.inr rfl, ⟨Or.inr rfl, ⟨Or.inr rfl, ⟨Or.inl rfl, ⟨Or.inr rfl, ⟨Or.inr rfl, trivial⟩⟩⟩⟩⟩⟩ ?_
        exact ok_X7_inFormeOf_46 hC hQ hC5 ih a0 a1 a2 a4 a5 a3 h hV
      · replace hV := hV.2 k9
        refine r_iload hC dX7_inFormeOf_31 rfl ?_
        refine r_aload_n hC dX7_inFormeOf_33 rfl ?_
        refine r_iload_n hC dX7_inFormeOf_34 rfl ?_
        refine r_iconst (v := 0) hC dX7_inFormeOf_35 (by decide) ?_
        obtain ⟨k9, hV⟩ := hV
        refine r_callV (ci := 7) (As := [.int a1, .int 0]) hC dX7_inFormeOf_36 rfl cf_X7_ofJob ml_7_60 im_X7_ofJob sl_X7_ofJob lq_7 rfl rfl k9 rfl ⟨Nat.le_of_ble_eq_true rfl, Nat.le_of_ble_eq_true rfl, Nat.le_of_ble_eq_true rfl, Nat.le_of_ble_eq_true rfl⟩ (csI (csI cs0)) (Nat.le_of_ble_eq_true rfl) (con_X7_ofJob a0 a1 0 h _ hV) rfl (kI (k := 0) (n := 0) (fun r1 h1 hV => ?_))
        refine r_icmp_ne (tgt := 46) hC dX7_inFormeOf_39 (by decide) (fun k9 => ?_) (fun k9 => ?_)
        · replace hV := hV.1 k9
          refine r_sub (lo1 := [some (rv a0), some (.int a1), some (.int a2), none, some (.int a4), some (.int a5)]) ⟨Or.inr rfl, ⟨Or.inr rfl, ⟨Or.inr rfl, ⟨Or.inl rfl, ⟨Or.inr rfl, ⟨Or.inr rfl, trivial⟩⟩⟩⟩⟩⟩ ?_
          exact ok_X7_inFormeOf_46 hC hQ hC5 ih a0 a1 a2 a4 a5 a3 h1 hV
        · replace hV := hV.2 k9
          refine r_iconst (v := 0) hC dX7_inFormeOf_42 (by decide) ?_
          refine r_goto (tgt := 55) hC dX7_inFormeOf_43 (by decide) ?_
          refine r_sub (lo1 := [some (rv a0), some (.int a1), some (.int a2), none, some (.int a4), some (.int a5)]) ⟨Or.inr rfl, ⟨Or.inr rfl, ⟨Or.inr rfl, ⟨Or.inl rfl, ⟨Or.inr rfl, ⟨Or.inr rfl, trivial⟩⟩⟩⟩⟩⟩ ?_
          exact ok_X7_inFormeOf_55 hC hQ hC5 ih a0 a1 a2 a4 a5 a3 0 h1 hV
set_option maxRecDepth 100000 in
set_option maxHeartbeats 4000000 in
theorem ok_X7_inFormeOf_5 {E : Ev} {X : Xt} {l0 : Launch} {K : Int32 → Hp → Prop} (hC : Cx E X l0 RX7 cX7_inFormeOf 6 rm_X7_inFormeOf) (hQ : CQ E X "inFormeOf" (some .int) rm_X7_inFormeOf (KI K)) : ∀ (n : Nat) (a0 : Nat) (a1 : Int32) (a2 : Int32) (a3 : Int32) (a4 : Int32) (h : Hp), V_X7_inFormeOf_5 K n a0 a1 a2 a3 a4 h → WW E X h 0 0 5 [some (rv a0), some (.int a1), some (.int a2), some (.int a3), some (.int a4), none] [] := by
  intro n
  induction n with
  | zero => intro a0 a1 a2 a3 a4 h hV; exact hV.elim
  | succ n ih =>
    intro a0 a1 a2 a3 a4 h hV
    unfold V_X7_inFormeOf_5 at hV
    refine r_iload hC dX7_inFormeOf_5 rfl ?_
    refine r_aload_n hC dX7_inFormeOf_7 rfl ?_
    obtain ⟨k9, hV⟩ := hV
    refine r_getR hC dX7_inFormeOf_8 fl_7_7 rf_7_0 lq_7 k9 ?_
    refine r_iconst (v := 0) hC dX7_inFormeOf_11 (by decide) ?_
    obtain ⟨k9, k8, hV⟩ := hV
    refine r_iald (kd := 60) hC dX7_inFormeOf_12 (by decide) rfl k9 k8 ?_
    refine r_icmp_ge (tgt := 69) hC dX7_inFormeOf_13 (by decide) (fun k9 => ?_) (fun k9 => ?_)
    · replace hV := hV.1 k9
      refine r_iload_n hC dX7_inFormeOf_69 rfl ?_
      exact r_iret hC hQ dX7_inFormeOf_70 (Nat.le_of_ble_eq_true rfl) (Nat.le_of_ble_eq_true rfl) ⟨_, rfl, hV⟩
    · replace hV := hV.2 k9
      refine r_iconst (v := 0) hC dX7_inFormeOf_16 (by decide) ?_
      refine r_istore (lo1 := [some (rv a0), some (.int a1), some (.int a2), some (.int a3), some (.int a4), some (.int 0)]) hC dX7_inFormeOf_17 (Nat.le_of_ble_eq_true rfl) rfl ?_
      obtain ⟨n9, hV⟩ := hV
      exact ok_X7_inFormeOf_19 hC hQ ih n9 a0 a1 a2 a3 a4 0 h hV
set_option maxRecDepth 100000 in
set_option maxHeartbeats 4000000 in
theorem ok_X7_inFormeOf_0 {E : Ev} {X : Xt} {l0 : Launch} {K : Int32 → Hp → Prop} (hC : Cx E X l0 RX7 cX7_inFormeOf 6 rm_X7_inFormeOf) (hQ : CQ E X "inFormeOf" (some .int) rm_X7_inFormeOf (KI K)) (a0 : Nat) (a1 : Int32) (a2 : Int32) (h : Hp) (hV : V_X7_inFormeOf a0 a1 a2 h K) : WW E X h 0 0 0 [some (rv a0), some (.int a1), some (.int a2), none, none, none] [] := by
  unfold V_X7_inFormeOf at hV
  refine r_iconst (v := 0) hC dX7_inFormeOf_0 (by decide) ?_
  refine r_istore_n (lo1 := [some (rv a0), some (.int a1), some (.int a2), some (.int 0), none, none]) hC dX7_inFormeOf_1 (Nat.le_of_ble_eq_true rfl) rfl ?_
  refine r_iconst (v := 0) hC dX7_inFormeOf_2 (by decide) ?_
  refine r_istore (lo1 := [some (rv a0), some (.int a1), some (.int a2), some (.int 0), some (.int 0), none]) hC dX7_inFormeOf_3 (Nat.le_of_ble_eq_true rfl) rfl ?_
  obtain ⟨n9, hV⟩ := hV
  exact ok_X7_inFormeOf_5 hC hQ n9 a0 a1 a2 0 0 h hV
set_option maxRecDepth 100000 in
set_option maxHeartbeats 4000000 in
theorem con_X7_inFormeOf {E : Ev} {l0 : Launch} (a0 : Nat) (a1 : Int32) (a2 : Int32) (h : Hp) (K : Int32 → Hp → Prop) (hV : V_X7_inFormeOf a0 a1 a2 h K) : Con E l0 yX7_inFormeOf cX7_inFormeOf 6 (some .int) rm_X7_inFormeOf [rv a0, .int a1, .int a2] h (KI K) := by
  refine Con.of (by decide +kernel) (cat_R (cat_I (cat_I cat_nil))) (Nat.le_of_ble_eq_true rfl) (fun X hC hQ => ?_)
  refine r_sub (lo1 := [some (rv a0), some (.int a1), some (.int a2), none, none, none]) (show lsub [some (rv a0), some (.int a1), some (.int a2), none, none, none] _ from ⟨Or.inr rfl, ⟨Or.inr rfl, ⟨Or.inr rfl, ⟨Or.inr rfl, ⟨Or.inr rfl, ⟨Or.inr rfl, trivial⟩⟩⟩⟩⟩⟩) ?_
  exact ok_X7_inFormeOf_0 hC hQ a0 a1 a2 h hV
theorem dX7_put_0 : decode cX7_put 0 = .ok (.aload_n 0, 1) := by decide +kernel
theorem dX7_put_1 : decode cX7_put 1 = .ok (.getfield 7, 3) := by decide +kernel
theorem dX7_put_4 : decode cX7_put 4 = .ok (.sipush 211, 3) := by decide +kernel
theorem dX7_put_7 : decode cX7_put 7 = .ok (.sipush 272, 3) := by decide +kernel
theorem dX7_put_10 : decode cX7_put 10 = .ok (.iload_n 1, 1) := by decide +kernel
theorem dX7_put_11 : decode cX7_put 11 = .ok (.imul, 1) := by decide +kernel
theorem dX7_put_12 : decode cX7_put 12 = .ok (.iadd, 1) := by decide +kernel
theorem dX7_put_13 : decode cX7_put 13 = .ok (.iload_n 2, 1) := by decide +kernel
theorem dX7_put_14 : decode cX7_put 14 = .ok (.iadd, 1) := by decide +kernel
theorem dX7_put_15 : decode cX7_put 15 = .ok (.iload_n 3, 1) := by decide +kernel
theorem dX7_put_16 : decode cX7_put 16 = .ok (.iastore, 1) := by decide +kernel
theorem dX7_put_17 : decode cX7_put 17 = .ok (.return_, 1) := by decide +kernel
def rm_X7_put : Room := { frames := 0, cells := 0, slots := 0, locals := 0 }
set_option maxRecDepth 100000 in
set_option maxHeartbeats 4000000 in
theorem ok_X7_put_0 {E : Ev} {X : Xt} {l0 : Launch} {K : Hp → Prop} (hC : Cx E X l0 RX7 cX7_put 4 rm_X7_put) (hQ : CQ E X "put" none rm_X7_put (KV K)) (a0 : Nat) (a1 : Int32) (a2 : Int32) (a3 : Int32) (h : Hp) (hV : V_X7_put a0 a1 a2 a3 h K) : WW E X h 0 0 0 [some (rv a0), some (.int a1), some (.int a2), some (.int a3)] [] := by
  unfold V_X7_put at hV
  refine r_aload_n hC dX7_put_0 rfl ?_
  obtain ⟨k9, hV⟩ := hV
  refine r_getR hC dX7_put_1 fl_7_7 rf_7_0 lq_7 k9 ?_
  refine r_sipush (v := 211) hC dX7_put_4 (by decide) ?_
  refine r_sipush (v := 272) hC dX7_put_7 (by decide) ?_
  refine r_iload_n hC dX7_put_10 rfl ?_
  refine r_imul hC dX7_put_11 ?_
  refine r_iadd hC dX7_put_12 ?_
  refine r_iload_n hC dX7_put_13 rfl ?_
  refine r_iadd hC dX7_put_14 ?_
  refine r_iload_n hC dX7_put_15 rfl ?_
  obtain ⟨k9, k8, hV⟩ := hV
  refine r_iast (kd := 60) hC dX7_put_16 (by decide) rfl k9 k8 (nmH (fun h1 k9 => ?_))
  replace hV := hV h1 k9
  exact r_vret hC hQ dX7_put_17 (Nat.le_of_ble_eq_true rfl) (Nat.le_of_ble_eq_true rfl) ⟨rfl, hV⟩
set_option maxRecDepth 100000 in
set_option maxHeartbeats 4000000 in
theorem con_X7_put {E : Ev} {l0 : Launch} (a0 : Nat) (a1 : Int32) (a2 : Int32) (a3 : Int32) (h : Hp) (K : Hp → Prop) (hV : V_X7_put a0 a1 a2 a3 h K) : Con E l0 yX7_put cX7_put 4 none rm_X7_put [rv a0, .int a1, .int a2, .int a3] h (KV K) := by
  refine Con.of (by decide +kernel) (cat_R (cat_I (cat_I (cat_I cat_nil)))) (Nat.le_of_ble_eq_true rfl) (fun X hC hQ => ?_)
  refine r_sub (lo1 := [some (rv a0), some (.int a1), some (.int a2), some (.int a3)]) (show lsub [some (rv a0), some (.int a1), some (.int a2), some (.int a3)] _ from ⟨Or.inr rfl, ⟨Or.inr rfl, ⟨Or.inr rfl, ⟨Or.inr rfl, trivial⟩⟩⟩⟩) ?_
  exact ok_X7_put_0 hC hQ a0 a1 a2 a3 h hV
theorem dX7_has_0 : decode cX7_has 0 = .ok (.aload_n 0, 1) := by decide +kernel
theorem dX7_has_1 : decode cX7_has 1 = .ok (.getfield 7, 3) := by decide +kernel
theorem dX7_has_4 : decode cX7_has 4 = .ok (.bipush 8, 2) := by decide +kernel
theorem dX7_has_6 : decode cX7_has 6 = .ok (.bipush 29, 2) := by decide +kernel
theorem dX7_has_8 : decode cX7_has 8 = .ok (.iload_n 1, 1) := by decide +kernel
theorem dX7_has_9 : decode cX7_has 9 = .ok (.imul, 1) := by decide +kernel
theorem dX7_has_10 : decode cX7_has 10 = .ok (.iadd, 1) := by decide +kernel
theorem dX7_has_11 : decode cX7_has 11 = .ok (.iload_n 2, 1) := by decide +kernel
theorem dX7_has_12 : decode cX7_has 12 = .ok (.iadd, 1) := by decide +kernel
theorem dX7_has_13 : decode cX7_has 13 = .ok (.iaload, 1) := by decide +kernel
theorem dX7_has_14 : decode cX7_has 14 = .ok (.ireturn, 1) := by decide +kernel
def rm_X7_has : Room := { frames := 0, cells := 0, slots := 0, locals := 0 }
set_option maxRecDepth 100000 in
set_option maxHeartbeats 4000000 in
theorem ok_X7_has_0 {E : Ev} {X : Xt} {l0 : Launch} {K : Int32 → Hp → Prop} (hC : Cx E X l0 RX7 cX7_has 3 rm_X7_has) (hQ : CQ E X "has" (some .int) rm_X7_has (KI K)) (a0 : Nat) (a1 : Int32) (a2 : Int32) (h : Hp) (hV : V_X7_has a0 a1 a2 h K) : WW E X h 0 0 0 [some (rv a0), some (.int a1), some (.int a2)] [] := by
  unfold V_X7_has at hV
  refine r_aload_n hC dX7_has_0 rfl ?_
  obtain ⟨k9, hV⟩ := hV
  refine r_getR hC dX7_has_1 fl_7_7 rf_7_0 lq_7 k9 ?_
  refine r_bipush (v := 8) hC dX7_has_4 (by decide) ?_
  refine r_bipush (v := 29) hC dX7_has_6 (by decide) ?_
  refine r_iload_n hC dX7_has_8 rfl ?_
  refine r_imul hC dX7_has_9 ?_
  refine r_iadd hC dX7_has_10 ?_
  refine r_iload_n hC dX7_has_11 rfl ?_
  refine r_iadd hC dX7_has_12 ?_
  obtain ⟨k9, k8, hV⟩ := hV
  refine r_iald (kd := 60) hC dX7_has_13 (by decide) rfl k9 k8 ?_
  exact r_iret hC hQ dX7_has_14 (Nat.le_of_ble_eq_true rfl) (Nat.le_of_ble_eq_true rfl) ⟨_, rfl, hV⟩
set_option maxRecDepth 100000 in
set_option maxHeartbeats 4000000 in
theorem con_X7_has {E : Ev} {l0 : Launch} (a0 : Nat) (a1 : Int32) (a2 : Int32) (h : Hp) (K : Int32 → Hp → Prop) (hV : V_X7_has a0 a1 a2 h K) : Con E l0 yX7_has cX7_has 3 (some .int) rm_X7_has [rv a0, .int a1, .int a2] h (KI K) := by
  refine Con.of (by decide +kernel) (cat_R (cat_I (cat_I cat_nil))) (Nat.le_of_ble_eq_true rfl) (fun X hC hQ => ?_)
  refine r_sub (lo1 := [some (rv a0), some (.int a1), some (.int a2)]) (show lsub [some (rv a0), some (.int a1), some (.int a2)] _ from ⟨Or.inr rfl, ⟨Or.inr rfl, ⟨Or.inr rfl, trivial⟩⟩⟩) ?_
  exact ok_X7_has_0 hC hQ a0 a1 a2 h hV
theorem dX7_least_0 : decode cX7_least 0 = .ok (.iload_n 0, 1) := by decide +kernel
theorem dX7_least_1 : decode cX7_least 1 = .ok (.iload_n 1, 1) := by decide +kernel
theorem dX7_least_2 : decode cX7_least 2 = .ok (.if_icmp .ge 7, 3) := by decide +kernel
theorem dX7_least_5 : decode cX7_least 5 = .ok (.iload_n 0, 1) := by decide +kernel
theorem dX7_least_6 : decode cX7_least 6 = .ok (.goto 4, 3) := by decide +kernel
theorem dX7_least_9 : decode cX7_least 9 = .ok (.iload_n 1, 1) := by decide +kernel
theorem dX7_least_10 : decode cX7_least 10 = .ok (.ireturn, 1) := by decide +kernel
def rm_X7_least : Room := { frames := 0, cells := 0, slots := 0, locals := 0 }
set_option maxRecDepth 100000 in
set_option maxHeartbeats 4000000 in
theorem ok_X7_least_10 {E : Ev} {X : Xt} {l0 : Launch} {K : Int32 → Hp → Prop} (hC : Cx E X l0 RX7 cX7_least 2 rm_X7_least) (hQ : CQ E X "least" (some .int) rm_X7_least (KI K)) (s0 : Int32) (h : Hp) (hV : V_X7_least_10 K s0 h) : WW E X h 0 0 10 [none, none] [.int s0] := by
  unfold V_X7_least_10 at hV
  exact r_iret hC hQ dX7_least_10 (Nat.le_of_ble_eq_true rfl) (Nat.le_of_ble_eq_true rfl) ⟨_, rfl, hV⟩
set_option maxRecDepth 100000 in
set_option maxHeartbeats 4000000 in
theorem ok_X7_least_0 {E : Ev} {X : Xt} {l0 : Launch} {K : Int32 → Hp → Prop} (hC : Cx E X l0 RX7 cX7_least 2 rm_X7_least) (hQ : CQ E X "least" (some .int) rm_X7_least (KI K)) (a0 : Int32) (a1 : Int32) (h : Hp) (hV : V_X7_least a0 a1 h K) : WW E X h 0 0 0 [some (.int a0), some (.int a1)] [] := by
  unfold V_X7_least at hV
  refine r_iload_n hC dX7_least_0 rfl ?_
  refine r_iload_n hC dX7_least_1 rfl ?_
  refine r_icmp_ge (tgt := 9) hC dX7_least_2 (by decide) (fun k9 => ?_) (fun k9 => ?_)
  · replace hV := hV.1 k9
    refine r_iload_n hC dX7_least_9 rfl ?_
    refine r_sub (lo1 := [none, none]) ⟨Or.inl rfl, ⟨Or.inl rfl, trivial⟩⟩ ?_
    exact ok_X7_least_10 hC hQ a1 h hV
  · replace hV := hV.2 k9
    refine r_iload_n hC dX7_least_5 rfl ?_
    refine r_goto (tgt := 10) hC dX7_least_6 (by decide) ?_
    refine r_sub (lo1 := [none, none]) ⟨Or.inl rfl, ⟨Or.inl rfl, trivial⟩⟩ ?_
    exact ok_X7_least_10 hC hQ a0 h hV
set_option maxRecDepth 100000 in
set_option maxHeartbeats 4000000 in
theorem con_X7_least {E : Ev} {l0 : Launch} (a0 : Int32) (a1 : Int32) (h : Hp) (K : Int32 → Hp → Prop) (hV : V_X7_least a0 a1 h K) : Con E l0 yX7_least cX7_least 2 (some .int) rm_X7_least [.int a0, .int a1] h (KI K) := by
  refine Con.of (by decide +kernel) (cat_I (cat_I cat_nil)) (Nat.le_of_ble_eq_true rfl) (fun X hC hQ => ?_)
  refine r_sub (lo1 := [some (.int a0), some (.int a1)]) (show lsub [some (.int a0), some (.int a1)] _ from ⟨Or.inr rfl, ⟨Or.inr rfl, trivial⟩⟩) ?_
  exact ok_X7_least_0 hC hQ a0 a1 h hV
theorem dX7_goBack_0 : decode cX7_goBack 0 = .ok (.iconst 0, 1) := by decide +kernel
theorem dX7_goBack_1 : decode cX7_goBack 1 = .ok (.istore_n 3, 1) := by decide +kernel
theorem dX7_goBack_2 : decode cX7_goBack 2 = .ok (.iconst 0, 1) := by decide +kernel
theorem dX7_goBack_3 : decode cX7_goBack 3 = .ok (.istore 4, 2) := by decide +kernel
theorem dX7_goBack_5 : decode cX7_goBack 5 = .ok (.iload 4, 2) := by decide +kernel
theorem dX7_goBack_7 : decode cX7_goBack 7 = .ok (.bipush 29, 2) := by decide +kernel
theorem dX7_goBack_9 : decode cX7_goBack 9 = .ok (.if_icmp .ge 136, 3) := by decide +kernel
theorem dX7_goBack_12 : decode cX7_goBack 12 = .ok (.iconst 0, 1) := by decide +kernel
theorem dX7_goBack_13 : decode cX7_goBack 13 = .ok (.istore 5, 2) := by decide +kernel
theorem dX7_goBack_15 : decode cX7_goBack 15 = .ok (.iload 5, 2) := by decide +kernel
theorem dX7_goBack_17 : decode cX7_goBack 17 = .ok (.aload_n 0, 1) := by decide +kernel
theorem dX7_goBack_18 : decode cX7_goBack 18 = .ok (.getfield 7, 3) := by decide +kernel
theorem dX7_goBack_21 : decode cX7_goBack 21 = .ok (.iconst 0, 1) := by decide +kernel
theorem dX7_goBack_22 : decode cX7_goBack 22 = .ok (.iaload, 1) := by decide +kernel
theorem dX7_goBack_23 : decode cX7_goBack 23 = .ok (.if_icmp .ge 116, 3) := by decide +kernel
theorem dX7_goBack_26 : decode cX7_goBack 26 = .ok (.aload_n 0, 1) := by decide +kernel
theorem dX7_goBack_27 : decode cX7_goBack 27 = .ok (.iload_n 1, 1) := by decide +kernel
theorem dX7_goBack_28 : decode cX7_goBack 28 = .ok (.iload 5, 2) := by decide +kernel
theorem dX7_goBack_30 : decode cX7_goBack 30 = .ok (.iload 4, 2) := by decide +kernel
theorem dX7_goBack_32 : decode cX7_goBack 32 = .ok (.invokevirtual 128, 3) := by decide +kernel
theorem dX7_goBack_35 : decode cX7_goBack 35 = .ok (.istore 6, 2) := by decide +kernel
theorem dX7_goBack_37 : decode cX7_goBack 37 = .ok (.iload 6, 2) := by decide +kernel
theorem dX7_goBack_39 : decode cX7_goBack 39 = .ok (.iload_n 2, 1) := by decide +kernel
theorem dX7_goBack_40 : decode cX7_goBack 40 = .ok (.ifCond .ne 7, 3) := by decide +kernel
theorem dX7_goBack_43 : decode cX7_goBack 43 = .ok (.iconst 0, 1) := by decide +kernel
theorem dX7_goBack_44 : decode cX7_goBack 44 = .ok (.goto 7, 3) := by decide +kernel
theorem dX7_goBack_47 : decode cX7_goBack 47 = .ok (.iload 6, 2) := by decide +kernel
theorem dX7_goBack_49 : decode cX7_goBack 49 = .ok (.iload_n 2, 1) := by decide +kernel
theorem dX7_goBack_50 : decode cX7_goBack 50 = .ok (.idiv, 1) := by decide +kernel
theorem dX7_goBack_51 : decode cX7_goBack 51 = .ok (.isub, 1) := by decide +kernel
theorem dX7_goBack_52 : decode cX7_goBack 52 = .ok (.bipush 99, 2) := by decide +kernel
theorem dX7_goBack_54 : decode cX7_goBack 54 = .ok (.aload_n 0, 1) := by decide +kernel
theorem dX7_goBack_55 : decode cX7_goBack 55 = .ok (.iload 5, 2) := by decide +kernel
theorem dX7_goBack_57 : decode cX7_goBack 57 = .ok (.iload 4, 2) := by decide +kernel
theorem dX7_goBack_59 : decode cX7_goBack 59 = .ok (.invokevirtual 79, 3) := by decide +kernel
theorem dX7_goBack_62 : decode cX7_goBack 62 = .ok (.isub, 1) := by decide +kernel
theorem dX7_goBack_63 : decode cX7_goBack 63 = .ok (.invokestatic 132, 3) := by decide +kernel
theorem dX7_goBack_66 : decode cX7_goBack 66 = .ok (.istore 7, 2) := by decide +kernel
theorem dX7_goBack_68 : decode cX7_goBack 68 = .ok (.aload_n 0, 1) := by decide +kernel
theorem dX7_goBack_69 : decode cX7_goBack 69 = .ok (.getfield 7, 3) := by decide +kernel
theorem dX7_goBack_72 : decode cX7_goBack 72 = .ok (.bipush 8, 2) := by decide +kernel
theorem dX7_goBack_74 : decode cX7_goBack 74 = .ok (.bipush 29, 2) := by decide +kernel
theorem dX7_goBack_76 : decode cX7_goBack 76 = .ok (.iload 5, 2) := by decide +kernel
theorem dX7_goBack_78 : decode cX7_goBack 78 = .ok (.imul, 1) := by decide +kernel
theorem dX7_goBack_79 : decode cX7_goBack 79 = .ok (.iadd, 1) := by decide +kernel
theorem dX7_goBack_80 : decode cX7_goBack 80 = .ok (.iload 4, 2) := by decide +kernel
theorem dX7_goBack_82 : decode cX7_goBack 82 = .ok (.iadd, 1) := by decide +kernel
theorem dX7_goBack_83 : decode cX7_goBack 83 = .ok (.dup2, 1) := by decide +kernel
theorem dX7_goBack_84 : decode cX7_goBack 84 = .ok (.iaload, 1) := by decide +kernel
theorem dX7_goBack_85 : decode cX7_goBack 85 = .ok (.iload 7, 2) := by decide +kernel
theorem dX7_goBack_87 : decode cX7_goBack 87 = .ok (.iadd, 1) := by decide +kernel
theorem dX7_goBack_88 : decode cX7_goBack 88 = .ok (.iastore, 1) := by decide +kernel
theorem dX7_goBack_89 : decode cX7_goBack 89 = .ok (.aload_n 0, 1) := by decide +kernel
theorem dX7_goBack_90 : decode cX7_goBack 90 = .ok (.getfield 7, 3) := by decide +kernel
theorem dX7_goBack_93 : decode cX7_goBack 93 = .ok (.sipush 182, 3) := by decide +kernel
theorem dX7_goBack_96 : decode cX7_goBack 96 = .ok (.iload 4, 2) := by decide +kernel
theorem dX7_goBack_98 : decode cX7_goBack 98 = .ok (.iadd, 1) := by decide +kernel
theorem dX7_goBack_99 : decode cX7_goBack 99 = .ok (.dup2, 1) := by decide +kernel
theorem dX7_goBack_100 : decode cX7_goBack 100 = .ok (.iaload, 1) := by decide +kernel
theorem dX7_goBack_101 : decode cX7_goBack 101 = .ok (.iload 6, 2) := by decide +kernel
theorem dX7_goBack_103 : decode cX7_goBack 103 = .ok (.iload 7, 2) := by decide +kernel
theorem dX7_goBack_105 : decode cX7_goBack 105 = .ok (.isub, 1) := by decide +kernel
theorem dX7_goBack_106 : decode cX7_goBack 106 = .ok (.iadd, 1) := by decide +kernel
theorem dX7_goBack_107 : decode cX7_goBack 107 = .ok (.iastore, 1) := by decide +kernel
theorem dX7_goBack_108 : decode cX7_goBack 108 = .ok (.iload_n 3, 1) := by decide +kernel
theorem dX7_goBack_109 : decode cX7_goBack 109 = .ok (.iload 6, 2) := by decide +kernel
theorem dX7_goBack_111 : decode cX7_goBack 111 = .ok (.iload 7, 2) := by decide +kernel
theorem dX7_goBack_113 : decode cX7_goBack 113 = .ok (.isub, 1) := by decide +kernel
theorem dX7_goBack_114 : decode cX7_goBack 114 = .ok (.iadd, 1) := by decide +kernel
theorem dX7_goBack_115 : decode cX7_goBack 115 = .ok (.istore_n 3, 1) := by decide +kernel
theorem dX7_goBack_116 : decode cX7_goBack 116 = .ok (.aload_n 0, 1) := by decide +kernel
theorem dX7_goBack_117 : decode cX7_goBack 117 = .ok (.iload_n 1, 1) := by decide +kernel
theorem dX7_goBack_118 : decode cX7_goBack 118 = .ok (.bipush 67, 2) := by decide +kernel
theorem dX7_goBack_120 : decode cX7_goBack 120 = .ok (.bipush 29, 2) := by decide +kernel
theorem dX7_goBack_122 : decode cX7_goBack 122 = .ok (.iload 5, 2) := by decide +kernel
theorem dX7_goBack_124 : decode cX7_goBack 124 = .ok (.imul, 1) := by decide +kernel
theorem dX7_goBack_125 : decode cX7_goBack 125 = .ok (.iadd, 1) := by decide +kernel
theorem dX7_goBack_126 : decode cX7_goBack 126 = .ok (.iload 4, 2) := by decide +kernel
theorem dX7_goBack_128 : decode cX7_goBack 128 = .ok (.iadd, 1) := by decide +kernel
theorem dX7_goBack_129 : decode cX7_goBack 129 = .ok (.iconst 0, 1) := by decide +kernel
theorem dX7_goBack_130 : decode cX7_goBack 130 = .ok (.invokevirtual 141, 3) := by decide +kernel
theorem dX7_goBack_133 : decode cX7_goBack 133 = .ok (.iinc 5 1, 3) := by decide +kernel
theorem dX7_goBack_136 : decode cX7_goBack 136 = .ok (.goto (-121), 3) := by decide +kernel
theorem dX7_goBack_139 : decode cX7_goBack 139 = .ok (.iinc 4 1, 3) := by decide +kernel
theorem dX7_goBack_142 : decode cX7_goBack 142 = .ok (.goto (-137), 3) := by decide +kernel
theorem dX7_goBack_145 : decode cX7_goBack 145 = .ok (.iload_n 3, 1) := by decide +kernel
theorem dX7_goBack_146 : decode cX7_goBack 146 = .ok (.ireturn, 1) := by decide +kernel
def rm_X7_goBack : Room := { frames := 2, cells := 0, slots := 0, locals := 45 }
set_option maxRecDepth 100000 in
set_option maxHeartbeats 4000000 in
theorem ok_X7_goBack_51 {E : Ev} {X : Xt} {l0 : Launch} {K : Int32 → Hp → Prop} {C5 : Nat → Int32 → Int32 → Int32 → Int32 → Hp → Prop} {C15 : Nat → Int32 → Int32 → Int32 → Int32 → Int32 → Hp → Prop} (hC : Cx E X l0 RX7 cX7_goBack 8 rm_X7_goBack) (hQ : CQ E X "goBack" (some .int) rm_X7_goBack (KI K)) (hC5 : ∀ (a0 : Nat) (a1 : Int32) (a2 : Int32) (a3 : Int32) (a4 : Int32) (h : Hp), C5 a0 a1 a2 a3 a4 h → WW E X h 0 0 5 [some (rv a0), some (.int a1), some (.int a2), some (.int a3), some (.int a4), none, none, none] []) (hC15 : ∀ (a0 : Nat) (a1 : Int32) (a2 : Int32) (a3 : Int32) (a4 : Int32) (a5 : Int32) (h : Hp), C15 a0 a1 a2 a3 a4 a5 h → WW E X h 0 0 15 [some (rv a0), some (.int a1), some (.int a2), some (.int a3), some (.int a4), some (.int a5), none, none] []) (a0 : Nat) (a1 : Int32) (a2 : Int32) (a3 : Int32) (a4 : Int32) (a5 : Int32) (a6 : Int32) (s0 : Int32) (s1 : Int32) (h : Hp) (hV : V_X7_goBack_51 K C5 C15 a0 a1 a2 a3 a4 a5 a6 s0 s1 h) : WW E X h 0 0 51 [some (rv a0), some (.int a1), some (.int a2), some (.int a3), some (.int a4), some (.int a5), some (.int a6), none] [.int s1, .int s0] := by
  unfold V_X7_goBack_51 at hV
  refine r_isub hC dX7_goBack_51 ?_
  refine r_bipush (v := 99) hC dX7_goBack_52 (by decide) ?_
  refine r_aload_n hC dX7_goBack_54 rfl ?_
  refine r_iload hC dX7_goBack_55 rfl ?_
  refine r_iload hC dX7_goBack_57 rfl ?_
  obtain ⟨k9, hV⟩ := hV
  refine r_callV (ci := 7) (As := [.int a5, .int a4]) hC dX7_goBack_59 rfl cf_X7_has ml_7_79 im_X7_has sl_X7_has lq_7 rfl rfl k9 rfl ⟨Nat.le_of_ble_eq_true rfl, Nat.le_of_ble_eq_true rfl, Nat.le_of_ble_eq_true rfl, Nat.le_of_ble_eq_true rfl⟩ (csI (csI cs0)) (Nat.le_of_ble_eq_true rfl) (con_X7_has a0 a5 a4 h _ hV) rfl (kI (k := 0) (n := 0) (fun r1 h1 hV => ?_))
  refine r_isub hC dX7_goBack_62 ?_
  refine r_callS (As := [.int (s0 - s1), .int (99 - r1)]) hC dX7_goBack_63 rfl cf_X7_least ml_7_132 st_X7_least rfl ⟨Nat.le_of_ble_eq_true rfl, Nat.le_of_ble_eq_true rfl, Nat.le_of_ble_eq_true rfl, Nat.le_of_ble_eq_true rfl⟩ cs0 (Nat.le_of_ble_eq_true rfl) (con_X7_least (s0 - s1) (99 - r1) h1 _ hV) rfl (kI (k := 0) (n := 0) (fun r2 h2 hV => ?_))
  refine r_istore (lo1 := [some (rv a0), some (.int a1), some (.int a2), some (.int a3), some (.int a4), some (.int a5), some (.int a6), some (.int r2)]) hC dX7_goBack_66 (Nat.le_of_ble_eq_true rfl) rfl ?_
  refine r_aload_n hC dX7_goBack_68 rfl ?_
  obtain ⟨k9, hV⟩ := hV
  refine r_getR hC dX7_goBack_69 fl_7_7 rf_7_0 lq_7 k9 ?_
  refine r_bipush (v := 8) hC dX7_goBack_72 (by decide) ?_
  refine r_bipush (v := 29) hC dX7_goBack_74 (by decide) ?_
  refine r_iload hC dX7_goBack_76 rfl ?_
  refine r_imul hC dX7_goBack_78 ?_
  refine r_iadd hC dX7_goBack_79 ?_
  refine r_iload hC dX7_goBack_80 rfl ?_
  refine r_iadd hC dX7_goBack_82 ?_
  refine r_dup2 hC dX7_goBack_83 rfl (rv_cat _) ?_
  obtain ⟨k9, k8, hV⟩ := hV
  refine r_iald (kd := 60) hC dX7_goBack_84 (by decide) rfl k9 k8 ?_
  refine r_iload hC dX7_goBack_85 rfl ?_
  refine r_iadd hC dX7_goBack_87 ?_
  obtain ⟨k9, k8, hV⟩ := hV
  refine r_iast (kd := 60) hC dX7_goBack_88 (by decide) rfl k9 k8 (nmH (fun h3 k9 => ?_))
  replace hV := hV h3 k9
  refine r_aload_n hC dX7_goBack_89 rfl ?_
  obtain ⟨k9, hV⟩ := hV
  refine r_getR hC dX7_goBack_90 fl_7_7 rf_7_0 lq_7 k9 ?_
  refine r_sipush (v := 182) hC dX7_goBack_93 (by decide) ?_
  refine r_iload hC dX7_goBack_96 rfl ?_
  refine r_iadd hC dX7_goBack_98 ?_
  refine r_dup2 hC dX7_goBack_99 rfl (rv_cat _) ?_
  obtain ⟨k9, k8, hV⟩ := hV
  refine r_iald (kd := 60) hC dX7_goBack_100 (by decide) rfl k9 k8 ?_
  refine r_iload hC dX7_goBack_101 rfl ?_
  refine r_iload hC dX7_goBack_103 rfl ?_
  refine r_isub hC dX7_goBack_105 ?_
  refine r_iadd hC dX7_goBack_106 ?_
  obtain ⟨k9, k8, hV⟩ := hV
  refine r_iast (kd := 60) hC dX7_goBack_107 (by decide) rfl k9 k8 (nmH (fun h4 k9 => ?_))
  replace hV := hV h4 k9
  refine r_iload_n hC dX7_goBack_108 rfl ?_
  refine r_iload hC dX7_goBack_109 rfl ?_
  refine r_iload hC dX7_goBack_111 rfl ?_
  refine r_isub hC dX7_goBack_113 ?_
  refine r_iadd hC dX7_goBack_114 ?_
  refine r_istore_n (lo1 := [some (rv a0), some (.int a1), some (.int a2), some (.int (a3 + (a6 - r2))), some (.int a4), some (.int a5), some (.int a6), some (.int r2)]) hC dX7_goBack_115 (Nat.le_of_ble_eq_true rfl) rfl ?_
  refine r_aload_n hC dX7_goBack_116 rfl ?_
  refine r_iload_n hC dX7_goBack_117 rfl ?_
  refine r_bipush (v := 67) hC dX7_goBack_118 (by decide) ?_
  refine r_bipush (v := 29) hC dX7_goBack_120 (by decide) ?_
  refine r_iload hC dX7_goBack_122 rfl ?_
  refine r_imul hC dX7_goBack_124 ?_
  refine r_iadd hC dX7_goBack_125 ?_
  refine r_iload hC dX7_goBack_126 rfl ?_
  refine r_iadd hC dX7_goBack_128 ?_
  refine r_iconst (v := 0) hC dX7_goBack_129 (by decide) ?_
  obtain ⟨k9, hV⟩ := hV
  refine r_callV (ci := 7) (As := [.int a1, .int ((67 + (29 * a5)) + a4), .int 0]) hC dX7_goBack_130 rfl cf_X7_put ml_7_141 im_X7_put sl_X7_put lq_7 rfl rfl k9 rfl ⟨Nat.le_of_ble_eq_true rfl, Nat.le_of_ble_eq_true rfl, Nat.le_of_ble_eq_true rfl, Nat.le_of_ble_eq_true rfl⟩ cs0 (Nat.le_of_ble_eq_true rfl) (con_X7_put a0 a1 ((67 + (29 * a5)) + a4) 0 h4 _ hV) rfl (kV (k := 0) (n := 0) (fun h5 hV => ?_))
  refine r_iinc (v := 1) (lo1 := [some (rv a0), some (.int a1), some (.int a2), some (.int (a3 + (a6 - r2))), some (.int a4), some (.int (a5 + 1)), some (.int a6), some (.int r2)]) hC dX7_goBack_133 rfl (by decide) rfl ?_
  refine r_goto (tgt := 15) hC dX7_goBack_136 (by decide) ?_
  refine r_sub (lo1 := [some (rv a0), some (.int a1), some (.int a2), some (.int (a3 + (a6 - r2))), some (.int a4), some (.int (a5 + 1)), none, none]) ⟨Or.inr rfl, ⟨Or.inr rfl, ⟨Or.inr rfl, ⟨Or.inr rfl, ⟨Or.inr rfl, ⟨Or.inr rfl, ⟨Or.inl rfl, ⟨Or.inl rfl, trivial⟩⟩⟩⟩⟩⟩⟩⟩ ?_
  exact hC15 a0 a1 a2 (a3 + (a6 - r2)) a4 (a5 + 1) h5 hV
set_option maxRecDepth 100000 in
set_option maxHeartbeats 4000000 in
theorem ok_X7_goBack_15 {E : Ev} {X : Xt} {l0 : Launch} {K : Int32 → Hp → Prop} {C5 : Nat → Int32 → Int32 → Int32 → Int32 → Hp → Prop} (hC : Cx E X l0 RX7 cX7_goBack 8 rm_X7_goBack) (hQ : CQ E X "goBack" (some .int) rm_X7_goBack (KI K)) (hC5 : ∀ (a0 : Nat) (a1 : Int32) (a2 : Int32) (a3 : Int32) (a4 : Int32) (h : Hp), C5 a0 a1 a2 a3 a4 h → WW E X h 0 0 5 [some (rv a0), some (.int a1), some (.int a2), some (.int a3), some (.int a4), none, none, none] []) : ∀ (n : Nat) (a0 : Nat) (a1 : Int32) (a2 : Int32) (a3 : Int32) (a4 : Int32) (a5 : Int32) (h : Hp), V_X7_goBack_15 K C5 n a0 a1 a2 a3 a4 a5 h → WW E X h 0 0 15 [some (rv a0), some (.int a1), some (.int a2), some (.int a3), some (.int a4), some (.int a5), none, none] [] := by
  intro n
  induction n with
  | zero => intro a0 a1 a2 a3 a4 a5 h hV; exact hV.elim
  | succ n ih =>
    intro a0 a1 a2 a3 a4 a5 h hV
    unfold V_X7_goBack_15 at hV
    refine r_iload hC dX7_goBack_15 rfl ?_
    refine r_aload_n hC dX7_goBack_17 rfl ?_
    obtain ⟨k9, hV⟩ := hV
    refine r_getR hC dX7_goBack_18 fl_7_7 rf_7_0 lq_7 k9 ?_
    refine r_iconst (v := 0) hC dX7_goBack_21 (by decide) ?_
    obtain ⟨k9, k8, hV⟩ := hV
    refine r_iald (kd := 60) hC dX7_goBack_22 (by decide) rfl k9 k8 ?_
    refine r_icmp_ge (tgt := 139) hC dX7_goBack_23 (by decide) (fun k9 => ?_) (fun k9 => ?_)
    · replace hV := hV.1 k9
      refine r_iinc (v := 1) (lo1 := [some (rv a0), some (.int a1), some (.int a2), some (.int a3), some (.int (a4 + 1)), some (.int a5), none, none]) hC dX7_goBack_139 rfl (by decide) rfl ?_
      refine r_goto (tgt := 5) hC dX7_goBack_142 (by decide) ?_
      refine r_sub (lo1 := [some (rv a0), some (.int a1), some (.int a2), some (.int a3), some (.int (a4 + 1)), none, none, none]) ⟨Or.inr rfl, ⟨Or.inr rfl, ⟨Or.inr rfl, ⟨Or.inr rfl, ⟨Or.inr rfl, ⟨Or.inl rfl, ⟨Or.inl rfl, ⟨Or.inl rfl, trivial⟩⟩⟩⟩⟩⟩⟩⟩ ?_
      exact hC5 a0 a1 a2 a3 (a4 + 1) h hV
    · replace hV := hV.2 k9
      refine r_aload_n hC dX7_goBack_26 rfl ?_
      refine r_iload_n hC dX7_goBack_27 rfl ?_
      refine r_iload hC dX7_goBack_28 rfl ?_
      refine r_iload hC dX7_goBack_30 rfl ?_
      obtain ⟨k9, hV⟩ := hV
      refine r_callV (ci := 7) (As := [.int a1, .int a5, .int a4]) hC dX7_goBack_32 rfl cf_X7_inForme ml_7_128 im_X7_inForme sl_X7_inForme lq_7 rfl rfl k9 rfl ⟨Nat.le_of_ble_eq_true rfl, Nat.le_of_ble_eq_true rfl, Nat.le_of_ble_eq_true rfl, Nat.le_of_ble_eq_true rfl⟩ cs0 (Nat.le_of_ble_eq_true rfl) (con_X7_inForme a0 a1 a5 a4 h _ hV) rfl (kI (k := 0) (n := 0) (fun r1 h1 hV => ?_))
      refine r_istore (lo1 := [some (rv a0), some (.int a1), some (.int a2), some (.int a3), some (.int a4), some (.int a5), some (.int r1), none]) hC dX7_goBack_35 (Nat.le_of_ble_eq_true rfl) rfl ?_
      refine r_iload hC dX7_goBack_37 rfl ?_
      refine r_iload_n hC dX7_goBack_39 rfl ?_
      refine r_if_ne (tgt := 47) hC dX7_goBack_40 (by decide) (fun k9 => ?_) (fun k9 => ?_)
      · replace hV := hV.1 k9
        refine r_iload hC dX7_goBack_47 rfl ?_
        refine r_iload_n hC dX7_goBack_49 rfl ?_
        obtain ⟨k9, hV⟩ := hV
        refine r_idiv hC dX7_goBack_50 k9 ?_
        exact ok_X7_goBack_51 hC hQ hC5 ih a0 a1 a2 a3 a4 a5 r1 r1 (r1 / a2) h1 hV
      · replace hV := hV.2 k9
        refine r_iconst (v := 0) hC dX7_goBack_43 (by decide) ?_
        refine r_goto (tgt := 51) hC dX7_goBack_44 (by decide) ?_
        exact ok_X7_goBack_51 hC hQ hC5 ih a0 a1 a2 a3 a4 a5 r1 r1 0 h1 hV
set_option maxRecDepth 100000 in
set_option maxHeartbeats 4000000 in
theorem ok_X7_goBack_5 {E : Ev} {X : Xt} {l0 : Launch} {K : Int32 → Hp → Prop} (hC : Cx E X l0 RX7 cX7_goBack 8 rm_X7_goBack) (hQ : CQ E X "goBack" (some .int) rm_X7_goBack (KI K)) : ∀ (n : Nat) (a0 : Nat) (a1 : Int32) (a2 : Int32) (a3 : Int32) (a4 : Int32) (h : Hp), V_X7_goBack_5 K n a0 a1 a2 a3 a4 h → WW E X h 0 0 5 [some (rv a0), some (.int a1), some (.int a2), some (.int a3), some (.int a4), none, none, none] [] := by
  intro n
  induction n with
  | zero => intro a0 a1 a2 a3 a4 h hV; exact hV.elim
  | succ n ih =>
    intro a0 a1 a2 a3 a4 h hV
    unfold V_X7_goBack_5 at hV
    refine r_iload hC dX7_goBack_5 rfl ?_
    refine r_bipush (v := 29) hC dX7_goBack_7 (by decide) ?_
    refine r_icmp_ge (tgt := 145) hC dX7_goBack_9 (by decide) (fun k9 => ?_) (fun k9 => ?_)
    · replace hV := hV.1 k9
      refine r_iload_n hC dX7_goBack_145 rfl ?_
      exact r_iret hC hQ dX7_goBack_146 (Nat.le_of_ble_eq_true rfl) (Nat.le_of_ble_eq_true rfl) ⟨_, rfl, hV⟩
    · replace hV := hV.2 k9
      refine r_iconst (v := 0) hC dX7_goBack_12 (by decide) ?_
      refine r_istore (lo1 := [some (rv a0), some (.int a1), some (.int a2), some (.int a3), some (.int a4), some (.int 0), none, none]) hC dX7_goBack_13 (Nat.le_of_ble_eq_true rfl) rfl ?_
      obtain ⟨n9, hV⟩ := hV
      exact ok_X7_goBack_15 hC hQ ih n9 a0 a1 a2 a3 a4 0 h hV
set_option maxRecDepth 100000 in
set_option maxHeartbeats 4000000 in
theorem ok_X7_goBack_0 {E : Ev} {X : Xt} {l0 : Launch} {K : Int32 → Hp → Prop} (hC : Cx E X l0 RX7 cX7_goBack 8 rm_X7_goBack) (hQ : CQ E X "goBack" (some .int) rm_X7_goBack (KI K)) (a0 : Nat) (a1 : Int32) (a2 : Int32) (h : Hp) (hV : V_X7_goBack a0 a1 a2 h K) : WW E X h 0 0 0 [some (rv a0), some (.int a1), some (.int a2), none, none, none, none, none] [] := by
  unfold V_X7_goBack at hV
  refine r_iconst (v := 0) hC dX7_goBack_0 (by decide) ?_
  refine r_istore_n (lo1 := [some (rv a0), some (.int a1), some (.int a2), some (.int 0), none, none, none, none]) hC dX7_goBack_1 (Nat.le_of_ble_eq_true rfl) rfl ?_
  refine r_iconst (v := 0) hC dX7_goBack_2 (by decide) ?_
  refine r_istore (lo1 := [some (rv a0), some (.int a1), some (.int a2), some (.int 0), some (.int 0), none, none, none]) hC dX7_goBack_3 (Nat.le_of_ble_eq_true rfl) rfl ?_
  obtain ⟨n9, hV⟩ := hV
  exact ok_X7_goBack_5 hC hQ n9 a0 a1 a2 0 0 h hV
set_option maxRecDepth 100000 in
set_option maxHeartbeats 4000000 in
theorem con_X7_goBack {E : Ev} {l0 : Launch} (a0 : Nat) (a1 : Int32) (a2 : Int32) (h : Hp) (K : Int32 → Hp → Prop) (hV : V_X7_goBack a0 a1 a2 h K) : Con E l0 yX7_goBack cX7_goBack 8 (some .int) rm_X7_goBack [rv a0, .int a1, .int a2] h (KI K) := by
  refine Con.of (by decide +kernel) (cat_R (cat_I (cat_I cat_nil))) (Nat.le_of_ble_eq_true rfl) (fun X hC hQ => ?_)
  refine r_sub (lo1 := [some (rv a0), some (.int a1), some (.int a2), none, none, none, none, none]) (show lsub [some (rv a0), some (.int a1), some (.int a2), none, none, none, none, none] _ from ⟨Or.inr rfl, ⟨Or.inr rfl, ⟨Or.inr rfl, ⟨Or.inr rfl, ⟨Or.inr rfl, ⟨Or.inr rfl, ⟨Or.inr rfl, ⟨Or.inr rfl, trivial⟩⟩⟩⟩⟩⟩⟩⟩) ?_
  exact ok_X7_goBack_0 hC hQ a0 a1 a2 h hV
theorem dX7_cancel_0 : decode cX7_cancel 0 = .ok (.aload_n 0, 1) := by decide +kernel
theorem dX7_cancel_1 : decode cX7_cancel 1 = .ok (.iload_n 1, 1) := by decide +kernel
theorem dX7_cancel_2 : decode cX7_cancel 2 = .ok (.invokevirtual 144, 3) := by decide +kernel
theorem dX7_cancel_5 : decode cX7_cancel 5 = .ok (.ifCond .eq 5, 3) := by decide +kernel
theorem dX7_cancel_8 : decode cX7_cancel 8 = .ok (.iconst (-1), 1) := by decide +kernel
theorem dX7_cancel_9 : decode cX7_cancel 9 = .ok (.ireturn, 1) := by decide +kernel
theorem dX7_cancel_10 : decode cX7_cancel 10 = .ok (.aload_n 0, 1) := by decide +kernel
theorem dX7_cancel_11 : decode cX7_cancel 11 = .ok (.iload_n 1, 1) := by decide +kernel
theorem dX7_cancel_12 : decode cX7_cancel 12 = .ok (.iconst 3, 1) := by decide +kernel
theorem dX7_cancel_13 : decode cX7_cancel 13 = .ok (.invokevirtual 60, 3) := by decide +kernel
theorem dX7_cancel_16 : decode cX7_cancel 16 = .ok (.iconst 0, 1) := by decide +kernel
theorem dX7_cancel_17 : decode cX7_cancel 17 = .ok (.iconst 1, 1) := by decide +kernel
theorem dX7_cancel_18 : decode cX7_cancel 18 = .ok (.invokestatic 56, 3) := by decide +kernel
theorem dX7_cancel_21 : decode cX7_cancel 21 = .ok (.ifCond .ne 6, 3) := by decide +kernel
theorem dX7_cancel_24 : decode cX7_cancel 24 = .ok (.bipush (-4), 2) := by decide +kernel
theorem dX7_cancel_26 : decode cX7_cancel 26 = .ok (.ireturn, 1) := by decide +kernel
theorem dX7_cancel_27 : decode cX7_cancel 27 = .ok (.aload_n 0, 1) := by decide +kernel
theorem dX7_cancel_28 : decode cX7_cancel 28 = .ok (.invokevirtual 65, 3) := by decide +kernel
theorem dX7_cancel_31 : decode cX7_cancel 31 = .ok (.aload_n 0, 1) := by decide +kernel
theorem dX7_cancel_32 : decode cX7_cancel 32 = .ok (.iload_n 1, 1) := by decide +kernel
theorem dX7_cancel_33 : decode cX7_cancel 33 = .ok (.iconst 0, 1) := by decide +kernel
theorem dX7_cancel_34 : decode cX7_cancel 34 = .ok (.invokevirtual 160, 3) := by decide +kernel
theorem dX7_cancel_37 : decode cX7_cancel 37 = .ok (.istore_n 2, 1) := by decide +kernel
theorem dX7_cancel_38 : decode cX7_cancel 38 = .ok (.aload_n 0, 1) := by decide +kernel
theorem dX7_cancel_39 : decode cX7_cancel 39 = .ok (.iload_n 1, 1) := by decide +kernel
theorem dX7_cancel_40 : decode cX7_cancel 40 = .ok (.iconst 3, 1) := by decide +kernel
theorem dX7_cancel_41 : decode cX7_cancel 41 = .ok (.iconst 4, 1) := by decide +kernel
theorem dX7_cancel_42 : decode cX7_cancel 42 = .ok (.invokevirtual 141, 3) := by decide +kernel
theorem dX7_cancel_45 : decode cX7_cancel 45 = .ok (.iload_n 2, 1) := by decide +kernel
theorem dX7_cancel_46 : decode cX7_cancel 46 = .ok (.aload_n 0, 1) := by decide +kernel
theorem dX7_cancel_47 : decode cX7_cancel 47 = .ok (.iload_n 1, 1) := by decide +kernel
theorem dX7_cancel_48 : decode cX7_cancel 48 = .ok (.iconst 0, 1) := by decide +kernel
theorem dX7_cancel_49 : decode cX7_cancel 49 = .ok (.invokevirtual 157, 3) := by decide +kernel
theorem dX7_cancel_52 : decode cX7_cancel 52 = .ok (.isub, 1) := by decide +kernel
theorem dX7_cancel_53 : decode cX7_cancel 53 = .ok (.ireturn, 1) := by decide +kernel
def rm_X7_cancel : Room := { frames := 3, cells := 0, slots := 0, locals := 72 }
set_option maxRecDepth 100000 in
set_option maxHeartbeats 4000000 in
theorem ok_X7_cancel_0 {E : Ev} {X : Xt} {l0 : Launch} {K : Int32 → Hp → Prop} (hC : Cx E X l0 RX7 cX7_cancel 3 rm_X7_cancel) (hQ : CQ E X "cancel" (some .int) rm_X7_cancel (KI K)) (a0 : Nat) (a1 : Int32) (h : Hp) (hV : V_X7_cancel a0 a1 h K) : WW E X h 0 0 0 [some (rv a0), some (.int a1), none] [] := by
  unfold V_X7_cancel at hV
  refine r_aload_n hC dX7_cancel_0 rfl ?_
  refine r_iload_n hC dX7_cancel_1 rfl ?_
  obtain ⟨k9, hV⟩ := hV
  refine r_callV (ci := 7) (As := [.int a1]) hC dX7_cancel_2 rfl cf_X7_noJob ml_7_144 im_X7_noJob sl_X7_noJob lq_7 rfl rfl k9 rfl ⟨Nat.le_of_ble_eq_true rfl, Nat.le_of_ble_eq_true rfl, Nat.le_of_ble_eq_true rfl, Nat.le_of_ble_eq_true rfl⟩ cs0 (Nat.le_of_ble_eq_true rfl) (con_X7_noJob a0 a1 h _ hV) rfl (kI (k := 0) (n := 0) (fun r1 h1 hV => ?_))
  refine r_if_eq (tgt := 10) hC dX7_cancel_5 (by decide) (fun k9 => ?_) (fun k9 => ?_)
  · replace hV := hV.1 k9
    refine r_aload_n hC dX7_cancel_10 rfl ?_
    refine r_iload_n hC dX7_cancel_11 rfl ?_
    refine r_iconst (v := 3) hC dX7_cancel_12 (by decide) ?_
    obtain ⟨k9, hV⟩ := hV
    refine r_callV (ci := 7) (As := [.int a1, .int 3]) hC dX7_cancel_13 rfl cf_X7_ofJob ml_7_60 im_X7_ofJob sl_X7_ofJob lq_7 rfl rfl k9 rfl ⟨Nat.le_of_ble_eq_true rfl, Nat.le_of_ble_eq_true rfl, Nat.le_of_ble_eq_true rfl, Nat.le_of_ble_eq_true rfl⟩ cs0 (Nat.le_of_ble_eq_true rfl) (con_X7_ofJob a0 a1 3 h1 _ hV) rfl (kI (k := 0) (n := 0) (fun r2 h2 hV => ?_))
    refine r_iconst (v := 0) hC dX7_cancel_16 (by decide) ?_
    refine r_iconst (v := 1) hC dX7_cancel_17 (by decide) ?_
    refine r_callS (As := [.int r2, .int 0, .int 1]) hC dX7_cancel_18 rfl cf_X7_in ml_7_56 st_X7_in rfl ⟨Nat.le_of_ble_eq_true rfl, Nat.le_of_ble_eq_true rfl, Nat.le_of_ble_eq_true rfl, Nat.le_of_ble_eq_true rfl⟩ cs0 (Nat.le_of_ble_eq_true rfl) (con_X7_in r2 0 1 h2 _ hV) rfl (kI (k := 0) (n := 0) (fun r3 h3 hV => ?_))
    refine r_if_ne (tgt := 27) hC dX7_cancel_21 (by decide) (fun k9 => ?_) (fun k9 => ?_)
    · replace hV := hV.1 k9
      refine r_aload_n hC dX7_cancel_27 rfl ?_
      obtain ⟨k9, hV⟩ := hV
      refine r_callV (ci := 7) (As := []) hC dX7_cancel_28 rfl cf_X7_record ml_7_65 im_X7_record sl_X7_record lq_7 rfl rfl k9 rfl ⟨Nat.le_of_ble_eq_true rfl, Nat.le_of_ble_eq_true rfl, Nat.le_of_ble_eq_true rfl, Nat.le_of_ble_eq_true rfl⟩ cs0 (Nat.le_of_ble_eq_true rfl) (con_X7_record a0 h3 _ hV) rfl (kV (k := 0) (n := 0) (fun h4 hV => ?_))
      refine r_aload_n hC dX7_cancel_31 rfl ?_
      refine r_iload_n hC dX7_cancel_32 rfl ?_
      refine r_iconst (v := 0) hC dX7_cancel_33 (by decide) ?_
      obtain ⟨k9, hV⟩ := hV
      refine r_callV (ci := 7) (As := [.int a1, .int 0]) hC dX7_cancel_34 rfl cf_X7_inFormeOf ml_7_160 im_X7_inFormeOf sl_X7_inFormeOf lq_7 rfl rfl k9 rfl ⟨Nat.le_of_ble_eq_true rfl, Nat.le_of_ble_eq_true rfl, Nat.le_of_ble_eq_true rfl, Nat.le_of_ble_eq_true rfl⟩ cs0 (Nat.le_of_ble_eq_true rfl) (con_X7_inFormeOf a0 a1 0 h4 _ hV) rfl (kI (k := 0) (n := 0) (fun r4 h5 hV => ?_))
      refine r_istore_n (lo1 := [some (rv a0), some (.int a1), some (.int r4)]) hC dX7_cancel_37 (Nat.le_of_ble_eq_true rfl) rfl ?_
      refine r_aload_n hC dX7_cancel_38 rfl ?_
      refine r_iload_n hC dX7_cancel_39 rfl ?_
      refine r_iconst (v := 3) hC dX7_cancel_40 (by decide) ?_
      refine r_iconst (v := 4) hC dX7_cancel_41 (by decide) ?_
      obtain ⟨k9, hV⟩ := hV
      refine r_callV (ci := 7) (As := [.int a1, .int 3, .int 4]) hC dX7_cancel_42 rfl cf_X7_put ml_7_141 im_X7_put sl_X7_put lq_7 rfl rfl k9 rfl ⟨Nat.le_of_ble_eq_true rfl, Nat.le_of_ble_eq_true rfl, Nat.le_of_ble_eq_true rfl, Nat.le_of_ble_eq_true rfl⟩ cs0 (Nat.le_of_ble_eq_true rfl) (con_X7_put a0 a1 3 4 h5 _ hV) rfl (kV (k := 0) (n := 0) (fun h6 hV => ?_))
      refine r_iload_n hC dX7_cancel_45 rfl ?_
      refine r_aload_n hC dX7_cancel_46 rfl ?_
      refine r_iload_n hC dX7_cancel_47 rfl ?_
      refine r_iconst (v := 0) hC dX7_cancel_48 (by decide) ?_
      obtain ⟨k9, hV⟩ := hV
      refine r_callV (ci := 7) (As := [.int a1, .int 0]) hC dX7_cancel_49 rfl cf_X7_goBack ml_7_157 im_X7_goBack sl_X7_goBack lq_7 rfl rfl k9 rfl ⟨Nat.le_of_ble_eq_true rfl, Nat.le_of_ble_eq_true rfl, Nat.le_of_ble_eq_true rfl, Nat.le_of_ble_eq_true rfl⟩ (csI cs0) (Nat.le_of_ble_eq_true rfl) (con_X7_goBack a0 a1 0 h6 _ hV) rfl (kI (k := 0) (n := 0) (fun r5 h7 hV => ?_))
      refine r_isub hC dX7_cancel_52 ?_
      exact r_iret hC hQ dX7_cancel_53 (Nat.le_of_ble_eq_true rfl) (Nat.le_of_ble_eq_true rfl) ⟨_, rfl, hV⟩
    · replace hV := hV.2 k9
      refine r_bipush (v := (-4)) hC dX7_cancel_24 (by decide) ?_
      exact r_iret hC hQ dX7_cancel_26 (Nat.le_of_ble_eq_true rfl) (Nat.le_of_ble_eq_true rfl) ⟨_, rfl, hV⟩
  · replace hV := hV.2 k9
    refine r_iconst (v := (-1)) hC dX7_cancel_8 (by decide) ?_
    exact r_iret hC hQ dX7_cancel_9 (Nat.le_of_ble_eq_true rfl) (Nat.le_of_ble_eq_true rfl) ⟨_, rfl, hV⟩
set_option maxRecDepth 100000 in
set_option maxHeartbeats 4000000 in
theorem con_X7_cancel {E : Ev} {l0 : Launch} (a0 : Nat) (a1 : Int32) (h : Hp) (K : Int32 → Hp → Prop) (hV : V_X7_cancel a0 a1 h K) : Con E l0 yX7_cancel cX7_cancel 3 (some .int) rm_X7_cancel [rv a0, .int a1] h (KI K) := by
  refine Con.of (by decide +kernel) (cat_R (cat_I cat_nil)) (Nat.le_of_ble_eq_true rfl) (fun X hC hQ => ?_)
  refine r_sub (lo1 := [some (rv a0), some (.int a1), none]) (show lsub [some (rv a0), some (.int a1), none] _ from ⟨Or.inr rfl, ⟨Or.inr rfl, ⟨Or.inr rfl, trivial⟩⟩⟩) ?_
  exact ok_X7_cancel_0 hC hQ a0 a1 h hV
theorem dX7_caseMetal_0 : decode cX7_caseMetal 0 = .ok (.iconst 0, 1) := by decide +kernel
theorem dX7_caseMetal_1 : decode cX7_caseMetal 1 = .ok (.istore_n 1, 1) := by decide +kernel
theorem dX7_caseMetal_2 : decode cX7_caseMetal 2 = .ok (.iconst 0, 1) := by decide +kernel
theorem dX7_caseMetal_3 : decode cX7_caseMetal 3 = .ok (.istore_n 2, 1) := by decide +kernel
theorem dX7_caseMetal_4 : decode cX7_caseMetal 4 = .ok (.iload_n 2, 1) := by decide +kernel
theorem dX7_caseMetal_5 : decode cX7_caseMetal 5 = .ok (.aload_n 0, 1) := by decide +kernel
theorem dX7_caseMetal_6 : decode cX7_caseMetal 6 = .ok (.getfield 7, 3) := by decide +kernel
theorem dX7_caseMetal_9 : decode cX7_caseMetal 9 = .ok (.iconst 0, 1) := by decide +kernel
theorem dX7_caseMetal_10 : decode cX7_caseMetal 10 = .ok (.iaload, 1) := by decide +kernel
theorem dX7_caseMetal_11 : decode cX7_caseMetal 11 = .ok (.if_icmp .ge 37, 3) := by decide +kernel
theorem dX7_caseMetal_14 : decode cX7_caseMetal 14 = .ok (.iconst 0, 1) := by decide +kernel
theorem dX7_caseMetal_15 : decode cX7_caseMetal 15 = .ok (.istore_n 3, 1) := by decide +kernel
theorem dX7_caseMetal_16 : decode cX7_caseMetal 16 = .ok (.iload_n 3, 1) := by decide +kernel
theorem dX7_caseMetal_17 : decode cX7_caseMetal 17 = .ok (.bipush 29, 2) := by decide +kernel
theorem dX7_caseMetal_19 : decode cX7_caseMetal 19 = .ok (.if_icmp .ge 23, 3) := by decide +kernel
theorem dX7_caseMetal_22 : decode cX7_caseMetal 22 = .ok (.iload_n 1, 1) := by decide +kernel
theorem dX7_caseMetal_23 : decode cX7_caseMetal 23 = .ok (.aload_n 0, 1) := by decide +kernel
theorem dX7_caseMetal_24 : decode cX7_caseMetal 24 = .ok (.iload_n 2, 1) := by decide +kernel
theorem dX7_caseMetal_25 : decode cX7_caseMetal 25 = .ok (.iload_n 3, 1) := by decide +kernel
theorem dX7_caseMetal_26 : decode cX7_caseMetal 26 = .ok (.invokevirtual 79, 3) := by decide +kernel
theorem dX7_caseMetal_29 : decode cX7_caseMetal 29 = .ok (.iload_n 3, 1) := by decide +kernel
theorem dX7_caseMetal_30 : decode cX7_caseMetal 30 = .ok (.invokestatic 68, 3) := by decide +kernel
theorem dX7_caseMetal_33 : decode cX7_caseMetal 33 = .ok (.imul, 1) := by decide +kernel
theorem dX7_caseMetal_34 : decode cX7_caseMetal 34 = .ok (.iadd, 1) := by decide +kernel
theorem dX7_caseMetal_35 : decode cX7_caseMetal 35 = .ok (.istore_n 1, 1) := by decide +kernel
theorem dX7_caseMetal_36 : decode cX7_caseMetal 36 = .ok (.iinc 3 1, 3) := by decide +kernel
theorem dX7_caseMetal_39 : decode cX7_caseMetal 39 = .ok (.goto (-23), 3) := by decide +kernel
theorem dX7_caseMetal_42 : decode cX7_caseMetal 42 = .ok (.iinc 2 1, 3) := by decide +kernel
theorem dX7_caseMetal_45 : decode cX7_caseMetal 45 = .ok (.goto (-41), 3) := by decide +kernel
theorem dX7_caseMetal_48 : decode cX7_caseMetal 48 = .ok (.iload_n 1, 1) := by decide +kernel
theorem dX7_caseMetal_49 : decode cX7_caseMetal 49 = .ok (.ireturn, 1) := by decide +kernel
def rm_X7_caseMetal : Room := { frames := 1, cells := 0, slots := 0, locals := 22 }
set_option maxRecDepth 100000 in
set_option maxHeartbeats 4000000 in
theorem ok_X7_caseMetal_16 {E : Ev} {X : Xt} {l0 : Launch} {K : Int32 → Hp → Prop} {C4 : Nat → Int32 → Int32 → Hp → Prop} (hC : Cx E X l0 RX7 cX7_caseMetal 4 rm_X7_caseMetal) (hQ : CQ E X "caseMetal" (some .int) rm_X7_caseMetal (KI K)) (hC4 : ∀ (a0 : Nat) (a1 : Int32) (a2 : Int32) (h : Hp), C4 a0 a1 a2 h → WW E X h 0 0 4 [some (rv a0), some (.int a1), some (.int a2), none] []) : ∀ (n : Nat) (a0 : Nat) (a1 : Int32) (a2 : Int32) (a3 : Int32) (h : Hp), V_X7_caseMetal_16 K C4 n a0 a1 a2 a3 h → WW E X h 0 0 16 [some (rv a0), some (.int a1), some (.int a2), some (.int a3)] [] := by
  intro n
  induction n with
  | zero => intro a0 a1 a2 a3 h hV; exact hV.elim
  | succ n ih =>
    intro a0 a1 a2 a3 h hV
    unfold V_X7_caseMetal_16 at hV
    refine r_iload_n hC dX7_caseMetal_16 rfl ?_
    refine r_bipush (v := 29) hC dX7_caseMetal_17 (by decide) ?_
    refine r_icmp_ge (tgt := 42) hC dX7_caseMetal_19 (by decide) (fun k9 => ?_) (fun k9 => ?_)
    · replace hV := hV.1 k9
      refine r_iinc (v := 1) (lo1 := [some (rv a0), some (.int a1), some (.int (a2 + 1)), some (.int a3)]) hC dX7_caseMetal_42 rfl (by decide) rfl ?_
      refine r_goto (tgt := 4) hC dX7_caseMetal_45 (by decide) ?_
      refine r_sub (lo1 := [some (rv a0), some (.int a1), some (.int (a2 + 1)), none]) ⟨Or.inr rfl, ⟨Or.inr rfl, ⟨Or.inr rfl, ⟨Or.inl rfl, trivial⟩⟩⟩⟩ ?_
      exact hC4 a0 a1 (a2 + 1) h hV
    · replace hV := hV.2 k9
      refine r_iload_n hC dX7_caseMetal_22 rfl ?_
      refine r_aload_n hC dX7_caseMetal_23 rfl ?_
      refine r_iload_n hC dX7_caseMetal_24 rfl ?_
      refine r_iload_n hC dX7_caseMetal_25 rfl ?_
      obtain ⟨k9, hV⟩ := hV
      refine r_callV (ci := 7) (As := [.int a2, .int a3]) hC dX7_caseMetal_26 rfl cf_X7_has ml_7_79 im_X7_has sl_X7_has lq_7 rfl rfl k9 rfl ⟨Nat.le_of_ble_eq_true rfl, Nat.le_of_ble_eq_true rfl, Nat.le_of_ble_eq_true rfl, Nat.le_of_ble_eq_true rfl⟩ (csI cs0) (Nat.le_of_ble_eq_true rfl) (con_X7_has a0 a2 a3 h _ hV) rfl (kI (k := 0) (n := 0) (fun r1 h1 hV => ?_))
      refine r_iload_n hC dX7_caseMetal_29 rfl ?_
      refine r_callS (As := [.int a3]) hC dX7_caseMetal_30 rfl cf_X7_width ml_7_68 st_X7_width rfl ⟨Nat.le_of_ble_eq_true rfl, Nat.le_of_ble_eq_true rfl, Nat.le_of_ble_eq_true rfl, Nat.le_of_ble_eq_true rfl⟩ (csI (csI cs0)) (Nat.le_of_ble_eq_true rfl) (con_X7_width a3 h1 _ hV) rfl (kI (k := 0) (n := 0) (fun r2 h2 hV => ?_))
      refine r_imul hC dX7_caseMetal_33 ?_
      refine r_iadd hC dX7_caseMetal_34 ?_
      refine r_istore_n (lo1 := [some (rv a0), some (.int (a1 + (r1 * r2))), some (.int a2), some (.int a3)]) hC dX7_caseMetal_35 (Nat.le_of_ble_eq_true rfl) rfl ?_
      refine r_iinc (v := 1) (lo1 := [some (rv a0), some (.int (a1 + (r1 * r2))), some (.int a2), some (.int (a3 + 1))]) hC dX7_caseMetal_36 rfl (by decide) rfl ?_
      refine r_goto (tgt := 16) hC dX7_caseMetal_39 (by decide) ?_
      exact ih a0 (a1 + (r1 * r2)) a2 (a3 + 1) h2 hV
set_option maxRecDepth 100000 in
set_option maxHeartbeats 4000000 in
theorem ok_X7_caseMetal_4 {E : Ev} {X : Xt} {l0 : Launch} {K : Int32 → Hp → Prop} (hC : Cx E X l0 RX7 cX7_caseMetal 4 rm_X7_caseMetal) (hQ : CQ E X "caseMetal" (some .int) rm_X7_caseMetal (KI K)) : ∀ (n : Nat) (a0 : Nat) (a1 : Int32) (a2 : Int32) (h : Hp), V_X7_caseMetal_4 K n a0 a1 a2 h → WW E X h 0 0 4 [some (rv a0), some (.int a1), some (.int a2), none] [] := by
  intro n
  induction n with
  | zero => intro a0 a1 a2 h hV; exact hV.elim
  | succ n ih =>
    intro a0 a1 a2 h hV
    unfold V_X7_caseMetal_4 at hV
    refine r_iload_n hC dX7_caseMetal_4 rfl ?_
    refine r_aload_n hC dX7_caseMetal_5 rfl ?_
    obtain ⟨k9, hV⟩ := hV
    refine r_getR hC dX7_caseMetal_6 fl_7_7 rf_7_0 lq_7 k9 ?_
    refine r_iconst (v := 0) hC dX7_caseMetal_9 (by decide) ?_
    obtain ⟨k9, k8, hV⟩ := hV
    refine r_iald (kd := 60) hC dX7_caseMetal_10 (by decide) rfl k9 k8 ?_
    refine r_icmp_ge (tgt := 48) hC dX7_caseMetal_11 (by decide) (fun k9 => ?_) (fun k9 => ?_)
    · replace hV := hV.1 k9
      refine r_iload_n hC dX7_caseMetal_48 rfl ?_
      exact r_iret hC hQ dX7_caseMetal_49 (Nat.le_of_ble_eq_true rfl) (Nat.le_of_ble_eq_true rfl) ⟨_, rfl, hV⟩
    · replace hV := hV.2 k9
      refine r_iconst (v := 0) hC dX7_caseMetal_14 (by decide) ?_
      refine r_istore_n (lo1 := [some (rv a0), some (.int a1), some (.int a2), some (.int 0)]) hC dX7_caseMetal_15 (Nat.le_of_ble_eq_true rfl) rfl ?_
      obtain ⟨n9, hV⟩ := hV
      exact ok_X7_caseMetal_16 hC hQ ih n9 a0 a1 a2 0 h hV
set_option maxRecDepth 100000 in
set_option maxHeartbeats 4000000 in
theorem ok_X7_caseMetal_0 {E : Ev} {X : Xt} {l0 : Launch} {K : Int32 → Hp → Prop} (hC : Cx E X l0 RX7 cX7_caseMetal 4 rm_X7_caseMetal) (hQ : CQ E X "caseMetal" (some .int) rm_X7_caseMetal (KI K)) (a0 : Nat) (h : Hp) (hV : V_X7_caseMetal a0 h K) : WW E X h 0 0 0 [some (rv a0), none, none, none] [] := by
  unfold V_X7_caseMetal at hV
  refine r_iconst (v := 0) hC dX7_caseMetal_0 (by decide) ?_
  refine r_istore_n (lo1 := [some (rv a0), some (.int 0), none, none]) hC dX7_caseMetal_1 (Nat.le_of_ble_eq_true rfl) rfl ?_
  refine r_iconst (v := 0) hC dX7_caseMetal_2 (by decide) ?_
  refine r_istore_n (lo1 := [some (rv a0), some (.int 0), some (.int 0), none]) hC dX7_caseMetal_3 (Nat.le_of_ble_eq_true rfl) rfl ?_
  obtain ⟨n9, hV⟩ := hV
  exact ok_X7_caseMetal_4 hC hQ n9 a0 0 0 h hV
set_option maxRecDepth 100000 in
set_option maxHeartbeats 4000000 in
theorem con_X7_caseMetal {E : Ev} {l0 : Launch} (a0 : Nat) (h : Hp) (K : Int32 → Hp → Prop) (hV : V_X7_caseMetal a0 h K) : Con E l0 yX7_caseMetal cX7_caseMetal 4 (some .int) rm_X7_caseMetal [rv a0] h (KI K) := by
  refine Con.of (by decide +kernel) (cat_R cat_nil) (Nat.le_of_ble_eq_true rfl) (fun X hC hQ => ?_)
  refine r_sub (lo1 := [some (rv a0), none, none, none]) (show lsub [some (rv a0), none, none, none] _ from ⟨Or.inr rfl, ⟨Or.inr rfl, ⟨Or.inr rfl, ⟨Or.inr rfl, trivial⟩⟩⟩⟩) ?_
  exact ok_X7_caseMetal_0 hC hQ a0 h hV
theorem dX7_noCase_0 : decode cX7_noCase 0 = .ok (.iload_n 1, 1) := by decide +kernel
theorem dX7_noCase_1 : decode cX7_noCase 1 = .ok (.iconst 0, 1) := by decide +kernel
theorem dX7_noCase_2 : decode cX7_noCase 2 = .ok (.aload_n 0, 1) := by decide +kernel
theorem dX7_noCase_3 : decode cX7_noCase 3 = .ok (.getfield 7, 3) := by decide +kernel
theorem dX7_noCase_6 : decode cX7_noCase 6 = .ok (.iconst 0, 1) := by decide +kernel
theorem dX7_noCase_7 : decode cX7_noCase 7 = .ok (.iaload, 1) := by decide +kernel
theorem dX7_noCase_8 : decode cX7_noCase 8 = .ok (.iconst 1, 1) := by decide +kernel
theorem dX7_noCase_9 : decode cX7_noCase 9 = .ok (.isub, 1) := by decide +kernel
theorem dX7_noCase_10 : decode cX7_noCase 10 = .ok (.invokestatic 56, 3) := by decide +kernel
theorem dX7_noCase_13 : decode cX7_noCase 13 = .ok (.ifCond .ne 7, 3) := by decide +kernel
theorem dX7_noCase_16 : decode cX7_noCase 16 = .ok (.iconst 1, 1) := by decide +kernel
theorem dX7_noCase_17 : decode cX7_noCase 17 = .ok (.goto 4, 3) := by decide +kernel
theorem dX7_noCase_20 : decode cX7_noCase 20 = .ok (.iconst 0, 1) := by decide +kernel
theorem dX7_noCase_21 : decode cX7_noCase 21 = .ok (.ireturn, 1) := by decide +kernel
def rm_X7_noCase : Room := { frames := 1, cells := 0, slots := 0, locals := 22 }
set_option maxRecDepth 100000 in
set_option maxHeartbeats 4000000 in
theorem ok_X7_noCase_21 {E : Ev} {X : Xt} {l0 : Launch} {K : Int32 → Hp → Prop} (hC : Cx E X l0 RX7 cX7_noCase 2 rm_X7_noCase) (hQ : CQ E X "noCase" (some .boolean) rm_X7_noCase (KI K)) (s0 : Int32) (h : Hp) (hV : V_X7_noCase_21 K s0 h) : WW E X h 0 0 21 [none, none] [.int s0] := by
  unfold V_X7_noCase_21 at hV
  exact r_zret hC hQ dX7_noCase_21 (Nat.le_of_ble_eq_true rfl) (Nat.le_of_ble_eq_true rfl) hV.1 ⟨_, rfl, hV.2⟩
set_option maxRecDepth 100000 in
set_option maxHeartbeats 4000000 in
theorem ok_X7_noCase_0 {E : Ev} {X : Xt} {l0 : Launch} {K : Int32 → Hp → Prop} (hC : Cx E X l0 RX7 cX7_noCase 2 rm_X7_noCase) (hQ : CQ E X "noCase" (some .boolean) rm_X7_noCase (KI K)) (a0 : Nat) (a1 : Int32) (h : Hp) (hV : V_X7_noCase a0 a1 h K) : WW E X h 0 0 0 [some (rv a0), some (.int a1)] [] := by
  unfold V_X7_noCase at hV
  refine r_iload_n hC dX7_noCase_0 rfl ?_
  refine r_iconst (v := 0) hC dX7_noCase_1 (by decide) ?_
  refine r_aload_n hC dX7_noCase_2 rfl ?_
  obtain ⟨k9, hV⟩ := hV
  refine r_getR hC dX7_noCase_3 fl_7_7 rf_7_0 lq_7 k9 ?_
  refine r_iconst (v := 0) hC dX7_noCase_6 (by decide) ?_
  obtain ⟨k9, k8, hV⟩ := hV
  refine r_iald (kd := 60) hC dX7_noCase_7 (by decide) rfl k9 k8 ?_
  refine r_iconst (v := 1) hC dX7_noCase_8 (by decide) ?_
  refine r_isub hC dX7_noCase_9 ?_
  refine r_callS (As := [.int a1, .int 0, .int ((hI h (hR h a0 0) (ix 0)) - 1)]) hC dX7_noCase_10 rfl cf_X7_in ml_7_56 st_X7_in rfl ⟨Nat.le_of_ble_eq_true rfl, Nat.le_of_ble_eq_true rfl, Nat.le_of_ble_eq_true rfl, Nat.le_of_ble_eq_true rfl⟩ cs0 (Nat.le_of_ble_eq_true rfl) (con_X7_in a1 0 ((hI h (hR h a0 0) (ix 0)) - 1) h _ hV) rfl (kI (k := 0) (n := 0) (fun r1 h1 hV => ?_))
  refine r_if_ne (tgt := 20) hC dX7_noCase_13 (by decide) (fun k9 => ?_) (fun k9 => ?_)
  · replace hV := hV.1 k9
    refine r_iconst (v := 0) hC dX7_noCase_20 (by decide) ?_
    refine r_sub (lo1 := [none, none]) ⟨Or.inl rfl, ⟨Or.inl rfl, trivial⟩⟩ ?_
    exact ok_X7_noCase_21 hC hQ 0 h1 hV
  · replace hV := hV.2 k9
    refine r_iconst (v := 1) hC dX7_noCase_16 (by decide) ?_
    refine r_goto (tgt := 21) hC dX7_noCase_17 (by decide) ?_
    refine r_sub (lo1 := [none, none]) ⟨Or.inl rfl, ⟨Or.inl rfl, trivial⟩⟩ ?_
    exact ok_X7_noCase_21 hC hQ 1 h1 hV
set_option maxRecDepth 100000 in
set_option maxHeartbeats 4000000 in
theorem con_X7_noCase {E : Ev} {l0 : Launch} (a0 : Nat) (a1 : Int32) (h : Hp) (K : Int32 → Hp → Prop) (hV : V_X7_noCase a0 a1 h K) : Con E l0 yX7_noCase cX7_noCase 2 (some .boolean) rm_X7_noCase [rv a0, .int a1] h (KI K) := by
  refine Con.of (by decide +kernel) (cat_R (cat_I cat_nil)) (Nat.le_of_ble_eq_true rfl) (fun X hC hQ => ?_)
  refine r_sub (lo1 := [some (rv a0), some (.int a1)]) (show lsub [some (rv a0), some (.int a1)] _ from ⟨Or.inr rfl, ⟨Or.inr rfl, trivial⟩⟩) ?_
  exact ok_X7_noCase_0 hC hQ a0 a1 h hV
theorem dX7_noSort_0 : decode cX7_noSort 0 = .ok (.iload_n 0, 1) := by decide +kernel
theorem dX7_noSort_1 : decode cX7_noSort 1 = .ok (.iconst 0, 1) := by decide +kernel
theorem dX7_noSort_2 : decode cX7_noSort 2 = .ok (.bipush 28, 2) := by decide +kernel
theorem dX7_noSort_4 : decode cX7_noSort 4 = .ok (.invokestatic 56, 3) := by decide +kernel
theorem dX7_noSort_7 : decode cX7_noSort 7 = .ok (.ifCond .ne 7, 3) := by decide +kernel
theorem dX7_noSort_10 : decode cX7_noSort 10 = .ok (.iconst 1, 1) := by decide +kernel
theorem dX7_noSort_11 : decode cX7_noSort 11 = .ok (.goto 4, 3) := by decide +kernel
theorem dX7_noSort_14 : decode cX7_noSort 14 = .ok (.iconst 0, 1) := by decide +kernel
theorem dX7_noSort_15 : decode cX7_noSort 15 = .ok (.ireturn, 1) := by decide +kernel
def rm_X7_noSort : Room := { frames := 1, cells := 0, slots := 0, locals := 22 }
set_option maxRecDepth 100000 in
set_option maxHeartbeats 4000000 in
theorem ok_X7_noSort_15 {E : Ev} {X : Xt} {l0 : Launch} {K : Int32 → Hp → Prop} (hC : Cx E X l0 RX7 cX7_noSort 1 rm_X7_noSort) (hQ : CQ E X "noSort" (some .boolean) rm_X7_noSort (KI K)) (s0 : Int32) (h : Hp) (hV : V_X7_noSort_15 K s0 h) : WW E X h 0 0 15 [none] [.int s0] := by
  unfold V_X7_noSort_15 at hV
  exact r_zret hC hQ dX7_noSort_15 (Nat.le_of_ble_eq_true rfl) (Nat.le_of_ble_eq_true rfl) hV.1 ⟨_, rfl, hV.2⟩
set_option maxRecDepth 100000 in
set_option maxHeartbeats 4000000 in
theorem ok_X7_noSort_0 {E : Ev} {X : Xt} {l0 : Launch} {K : Int32 → Hp → Prop} (hC : Cx E X l0 RX7 cX7_noSort 1 rm_X7_noSort) (hQ : CQ E X "noSort" (some .boolean) rm_X7_noSort (KI K)) (a0 : Int32) (h : Hp) (hV : V_X7_noSort a0 h K) : WW E X h 0 0 0 [some (.int a0)] [] := by
  unfold V_X7_noSort at hV
  refine r_iload_n hC dX7_noSort_0 rfl ?_
  refine r_iconst (v := 0) hC dX7_noSort_1 (by decide) ?_
  refine r_bipush (v := 28) hC dX7_noSort_2 (by decide) ?_
  refine r_callS (As := [.int a0, .int 0, .int 28]) hC dX7_noSort_4 rfl cf_X7_in ml_7_56 st_X7_in rfl ⟨Nat.le_of_ble_eq_true rfl, Nat.le_of_ble_eq_true rfl, Nat.le_of_ble_eq_true rfl, Nat.le_of_ble_eq_true rfl⟩ cs0 (Nat.le_of_ble_eq_true rfl) (con_X7_in a0 0 28 h _ hV) rfl (kI (k := 0) (n := 0) (fun r1 h1 hV => ?_))
  refine r_if_ne (tgt := 14) hC dX7_noSort_7 (by decide) (fun k9 => ?_) (fun k9 => ?_)
  · replace hV := hV.1 k9
    refine r_iconst (v := 0) hC dX7_noSort_14 (by decide) ?_
    refine r_sub (lo1 := [none]) ⟨Or.inl rfl, trivial⟩ ?_
    exact ok_X7_noSort_15 hC hQ 0 h1 hV
  · replace hV := hV.2 k9
    refine r_iconst (v := 1) hC dX7_noSort_10 (by decide) ?_
    refine r_goto (tgt := 15) hC dX7_noSort_11 (by decide) ?_
    refine r_sub (lo1 := [none]) ⟨Or.inl rfl, trivial⟩ ?_
    exact ok_X7_noSort_15 hC hQ 1 h1 hV
set_option maxRecDepth 100000 in
set_option maxHeartbeats 4000000 in
theorem con_X7_noSort {E : Ev} {l0 : Launch} (a0 : Int32) (h : Hp) (K : Int32 → Hp → Prop) (hV : V_X7_noSort a0 h K) : Con E l0 yX7_noSort cX7_noSort 1 (some .boolean) rm_X7_noSort [.int a0] h (KI K) := by
  refine Con.of (by decide +kernel) (cat_I cat_nil) (Nat.le_of_ble_eq_true rfl) (fun X hC hQ => ?_)
  refine r_sub (lo1 := [some (.int a0)]) (show lsub [some (.int a0)] _ from ⟨Or.inr rfl, trivial⟩) ?_
  exact ok_X7_noSort_0 hC hQ a0 h hV
theorem dX7_casts_0 : decode cX7_casts 0 = .ok (.aload_n 0, 1) := by decide +kernel
theorem dX7_casts_1 : decode cX7_casts 1 = .ok (.getfield 7, 3) := by decide +kernel
theorem dX7_casts_4 : decode cX7_casts 4 = .ok (.bipush 8, 2) := by decide +kernel
theorem dX7_casts_6 : decode cX7_casts 6 = .ok (.bipush 29, 2) := by decide +kernel
theorem dX7_casts_8 : decode cX7_casts 8 = .ok (.iload_n 1, 1) := by decide +kernel
theorem dX7_casts_9 : decode cX7_casts 9 = .ok (.imul, 1) := by decide +kernel
theorem dX7_casts_10 : decode cX7_casts 10 = .ok (.iadd, 1) := by decide +kernel
theorem dX7_casts_11 : decode cX7_casts 11 = .ok (.iload_n 2, 1) := by decide +kernel
theorem dX7_casts_12 : decode cX7_casts 12 = .ok (.iadd, 1) := by decide +kernel
theorem dX7_casts_13 : decode cX7_casts 13 = .ok (.dup2, 1) := by decide +kernel
theorem dX7_casts_14 : decode cX7_casts 14 = .ok (.iaload, 1) := by decide +kernel
theorem dX7_casts_15 : decode cX7_casts 15 = .ok (.iload_n 3, 1) := by decide +kernel
theorem dX7_casts_16 : decode cX7_casts 16 = .ok (.iadd, 1) := by decide +kernel
theorem dX7_casts_17 : decode cX7_casts 17 = .ok (.iastore, 1) := by decide +kernel
theorem dX7_casts_18 : decode cX7_casts 18 = .ok (.aload_n 0, 1) := by decide +kernel
theorem dX7_casts_19 : decode cX7_casts 19 = .ok (.getfield 7, 3) := by decide +kernel
theorem dX7_casts_22 : decode cX7_casts 22 = .ok (.iconst 2, 1) := by decide +kernel
theorem dX7_casts_23 : decode cX7_casts 23 = .ok (.dup2, 1) := by decide +kernel
theorem dX7_casts_24 : decode cX7_casts 24 = .ok (.iaload, 1) := by decide +kernel
theorem dX7_casts_25 : decode cX7_casts 25 = .ok (.iload_n 3, 1) := by decide +kernel
theorem dX7_casts_26 : decode cX7_casts 26 = .ok (.iload_n 2, 1) := by decide +kernel
theorem dX7_casts_27 : decode cX7_casts 27 = .ok (.invokestatic 68, 3) := by decide +kernel
theorem dX7_casts_30 : decode cX7_casts 30 = .ok (.imul, 1) := by decide +kernel
theorem dX7_casts_31 : decode cX7_casts 31 = .ok (.isub, 1) := by decide +kernel
theorem dX7_casts_32 : decode cX7_casts 32 = .ok (.iastore, 1) := by decide +kernel
theorem dX7_casts_33 : decode cX7_casts 33 = .ok (.aload_n 0, 1) := by decide +kernel
theorem dX7_casts_34 : decode cX7_casts 34 = .ok (.getfield 7, 3) := by decide +kernel
theorem dX7_casts_37 : decode cX7_casts 37 = .ok (.bipush 6, 2) := by decide +kernel
theorem dX7_casts_39 : decode cX7_casts 39 = .ok (.dup2, 1) := by decide +kernel
theorem dX7_casts_40 : decode cX7_casts 40 = .ok (.iaload, 1) := by decide +kernel
theorem dX7_casts_41 : decode cX7_casts 41 = .ok (.iload_n 3, 1) := by decide +kernel
theorem dX7_casts_42 : decode cX7_casts 42 = .ok (.iadd, 1) := by decide +kernel
theorem dX7_casts_43 : decode cX7_casts 43 = .ok (.iastore, 1) := by decide +kernel
theorem dX7_casts_44 : decode cX7_casts 44 = .ok (.return_, 1) := by decide +kernel
def rm_X7_casts : Room := { frames := 1, cells := 0, slots := 0, locals := 20 }
set_option maxRecDepth 100000 in
set_option maxHeartbeats 4000000 in
theorem ok_X7_casts_0 {E : Ev} {X : Xt} {l0 : Launch} {K : Hp → Prop} (hC : Cx E X l0 RX7 cX7_casts 4 rm_X7_casts) (hQ : CQ E X "casts" none rm_X7_casts (KV K)) (a0 : Nat) (a1 : Int32) (a2 : Int32) (a3 : Int32) (h : Hp) (hV : V_X7_casts a0 a1 a2 a3 h K) : WW E X h 0 0 0 [some (rv a0), some (.int a1), some (.int a2), some (.int a3)] [] := by
  unfold V_X7_casts at hV
  refine r_aload_n hC dX7_casts_0 rfl ?_
  obtain ⟨k9, hV⟩ := hV
  refine r_getR hC dX7_casts_1 fl_7_7 rf_7_0 lq_7 k9 ?_
  refine r_bipush (v := 8) hC dX7_casts_4 (by decide) ?_
  refine r_bipush (v := 29) hC dX7_casts_6 (by decide) ?_
  refine r_iload_n hC dX7_casts_8 rfl ?_
  refine r_imul hC dX7_casts_9 ?_
  refine r_iadd hC dX7_casts_10 ?_
  refine r_iload_n hC dX7_casts_11 rfl ?_
  refine r_iadd hC dX7_casts_12 ?_
  refine r_dup2 hC dX7_casts_13 rfl (rv_cat _) ?_
  obtain ⟨k9, k8, hV⟩ := hV
  refine r_iald (kd := 60) hC dX7_casts_14 (by decide) rfl k9 k8 ?_
  refine r_iload_n hC dX7_casts_15 rfl ?_
  refine r_iadd hC dX7_casts_16 ?_
  obtain ⟨k9, k8, hV⟩ := hV
  refine r_iast (kd := 60) hC dX7_casts_17 (by decide) rfl k9 k8 (nmH (fun h1 k9 => ?_))
  replace hV := hV h1 k9
  refine r_aload_n hC dX7_casts_18 rfl ?_
  obtain ⟨k9, hV⟩ := hV
  refine r_getR hC dX7_casts_19 fl_7_7 rf_7_0 lq_7 k9 ?_
  refine r_iconst (v := 2) hC dX7_casts_22 (by decide) ?_
  refine r_dup2 hC dX7_casts_23 rfl (rv_cat _) ?_
  obtain ⟨k9, k8, hV⟩ := hV
  refine r_iald (kd := 60) hC dX7_casts_24 (by decide) rfl k9 k8 ?_
  refine r_iload_n hC dX7_casts_25 rfl ?_
  refine r_iload_n hC dX7_casts_26 rfl ?_
  refine r_callS (As := [.int a2]) hC dX7_casts_27 rfl cf_X7_width ml_7_68 st_X7_width rfl ⟨Nat.le_of_ble_eq_true rfl, Nat.le_of_ble_eq_true rfl, Nat.le_of_ble_eq_true rfl, Nat.le_of_ble_eq_true rfl⟩ (csI (csI (csI (csR cs0)))) (Nat.le_of_ble_eq_true rfl) (con_X7_width a2 h1 _ hV) rfl (kI (k := 0) (n := 0) (fun r1 h2 hV => ?_))
  refine r_imul hC dX7_casts_30 ?_
  refine r_isub hC dX7_casts_31 ?_
  obtain ⟨k9, k8, hV⟩ := hV
  refine r_iast (kd := 60) hC dX7_casts_32 (by decide) rfl k9 k8 (nmH (fun h3 k9 => ?_))
  replace hV := hV h3 k9
  refine r_aload_n hC dX7_casts_33 rfl ?_
  obtain ⟨k9, hV⟩ := hV
  refine r_getR hC dX7_casts_34 fl_7_7 rf_7_0 lq_7 k9 ?_
  refine r_bipush (v := 6) hC dX7_casts_37 (by decide) ?_
  refine r_dup2 hC dX7_casts_39 rfl (rv_cat _) ?_
  obtain ⟨k9, k8, hV⟩ := hV
  refine r_iald (kd := 60) hC dX7_casts_40 (by decide) rfl k9 k8 ?_
  refine r_iload_n hC dX7_casts_41 rfl ?_
  refine r_iadd hC dX7_casts_42 ?_
  obtain ⟨k9, k8, hV⟩ := hV
  refine r_iast (kd := 60) hC dX7_casts_43 (by decide) rfl k9 k8 (nmH (fun h4 k9 => ?_))
  replace hV := hV h4 k9
  exact r_vret hC hQ dX7_casts_44 (Nat.le_of_ble_eq_true rfl) (Nat.le_of_ble_eq_true rfl) ⟨rfl, hV⟩
set_option maxRecDepth 100000 in
set_option maxHeartbeats 4000000 in
theorem con_X7_casts {E : Ev} {l0 : Launch} (a0 : Nat) (a1 : Int32) (a2 : Int32) (a3 : Int32) (h : Hp) (K : Hp → Prop) (hV : V_X7_casts a0 a1 a2 a3 h K) : Con E l0 yX7_casts cX7_casts 4 none rm_X7_casts [rv a0, .int a1, .int a2, .int a3] h (KV K) := by
  refine Con.of (by decide +kernel) (cat_R (cat_I (cat_I (cat_I cat_nil)))) (Nat.le_of_ble_eq_true rfl) (fun X hC hQ => ?_)
  refine r_sub (lo1 := [some (rv a0), some (.int a1), some (.int a2), some (.int a3)]) (show lsub [some (rv a0), some (.int a1), some (.int a2), some (.int a3)] _ from ⟨Or.inr rfl, ⟨Or.inr rfl, ⟨Or.inr rfl, ⟨Or.inr rfl, trivial⟩⟩⟩⟩) ?_
  exact ok_X7_casts_0 hC hQ a0 a1 a2 a3 h hV
theorem dX7_cast_0 : decode cX7_cast 0 = .ok (.aload_n 0, 1) := by decide +kernel
theorem dX7_cast_1 : decode cX7_cast 1 = .ok (.iload_n 1, 1) := by decide +kernel
theorem dX7_cast_2 : decode cX7_cast 2 = .ok (.invokevirtual 72, 3) := by decide +kernel
theorem dX7_cast_5 : decode cX7_cast 5 = .ok (.ifCond .ne 10, 3) := by decide +kernel
theorem dX7_cast_8 : decode cX7_cast 8 = .ok (.iload_n 2, 1) := by decide +kernel
theorem dX7_cast_9 : decode cX7_cast 9 = .ok (.invokestatic 76, 3) := by decide +kernel
theorem dX7_cast_12 : decode cX7_cast 12 = .ok (.ifCond .eq 5, 3) := by decide +kernel
theorem dX7_cast_15 : decode cX7_cast 15 = .ok (.iconst (-1), 1) := by decide +kernel
theorem dX7_cast_16 : decode cX7_cast 16 = .ok (.ireturn, 1) := by decide +kernel
theorem dX7_cast_17 : decode cX7_cast 17 = .ok (.iload_n 3, 1) := by decide +kernel
theorem dX7_cast_18 : decode cX7_cast 18 = .ok (.iconst 1, 1) := by decide +kernel
theorem dX7_cast_19 : decode cX7_cast 19 = .ok (.bipush 99, 2) := by decide +kernel
theorem dX7_cast_21 : decode cX7_cast 21 = .ok (.invokestatic 56, 3) := by decide +kernel
theorem dX7_cast_24 : decode cX7_cast 24 = .ok (.ifCond .ne 6, 3) := by decide +kernel
theorem dX7_cast_27 : decode cX7_cast 27 = .ok (.bipush (-2), 2) := by decide +kernel
theorem dX7_cast_29 : decode cX7_cast 29 = .ok (.ireturn, 1) := by decide +kernel
theorem dX7_cast_30 : decode cX7_cast 30 = .ok (.aload_n 0, 1) := by decide +kernel
theorem dX7_cast_31 : decode cX7_cast 31 = .ok (.iload_n 1, 1) := by decide +kernel
theorem dX7_cast_32 : decode cX7_cast 32 = .ok (.iload_n 2, 1) := by decide +kernel
theorem dX7_cast_33 : decode cX7_cast 33 = .ok (.invokevirtual 79, 3) := by decide +kernel
theorem dX7_cast_36 : decode cX7_cast 36 = .ok (.iload_n 3, 1) := by decide +kernel
theorem dX7_cast_37 : decode cX7_cast 37 = .ok (.iadd, 1) := by decide +kernel
theorem dX7_cast_38 : decode cX7_cast 38 = .ok (.bipush 99, 2) := by decide +kernel
theorem dX7_cast_40 : decode cX7_cast 40 = .ok (.if_icmp .le 6, 3) := by decide +kernel
theorem dX7_cast_43 : decode cX7_cast 43 = .ok (.bipush (-3), 2) := by decide +kernel
theorem dX7_cast_45 : decode cX7_cast 45 = .ok (.ireturn, 1) := by decide +kernel
theorem dX7_cast_46 : decode cX7_cast 46 = .ok (.iload_n 3, 1) := by decide +kernel
theorem dX7_cast_47 : decode cX7_cast 47 = .ok (.iload_n 2, 1) := by decide +kernel
theorem dX7_cast_48 : decode cX7_cast 48 = .ok (.invokestatic 68, 3) := by decide +kernel
theorem dX7_cast_51 : decode cX7_cast 51 = .ok (.imul, 1) := by decide +kernel
theorem dX7_cast_52 : decode cX7_cast 52 = .ok (.aload_n 0, 1) := by decide +kernel
theorem dX7_cast_53 : decode cX7_cast 53 = .ok (.getfield 7, 3) := by decide +kernel
theorem dX7_cast_56 : decode cX7_cast 56 = .ok (.iconst 2, 1) := by decide +kernel
theorem dX7_cast_57 : decode cX7_cast 57 = .ok (.iaload, 1) := by decide +kernel
theorem dX7_cast_58 : decode cX7_cast 58 = .ok (.if_icmp .le 6, 3) := by decide +kernel
theorem dX7_cast_61 : decode cX7_cast 61 = .ok (.bipush (-4), 2) := by decide +kernel
theorem dX7_cast_63 : decode cX7_cast 63 = .ok (.ireturn, 1) := by decide +kernel
theorem dX7_cast_64 : decode cX7_cast 64 = .ok (.aload_n 0, 1) := by decide +kernel
theorem dX7_cast_65 : decode cX7_cast 65 = .ok (.invokevirtual 65, 3) := by decide +kernel
theorem dX7_cast_68 : decode cX7_cast 68 = .ok (.aload_n 0, 1) := by decide +kernel
theorem dX7_cast_69 : decode cX7_cast 69 = .ok (.iload_n 1, 1) := by decide +kernel
theorem dX7_cast_70 : decode cX7_cast 70 = .ok (.iload_n 2, 1) := by decide +kernel
theorem dX7_cast_71 : decode cX7_cast 71 = .ok (.iload_n 3, 1) := by decide +kernel
theorem dX7_cast_72 : decode cX7_cast 72 = .ok (.invokevirtual 82, 3) := by decide +kernel
theorem dX7_cast_75 : decode cX7_cast 75 = .ok (.aload_n 0, 1) := by decide +kernel
theorem dX7_cast_76 : decode cX7_cast 76 = .ok (.iload_n 1, 1) := by decide +kernel
theorem dX7_cast_77 : decode cX7_cast 77 = .ok (.iload_n 2, 1) := by decide +kernel
theorem dX7_cast_78 : decode cX7_cast 78 = .ok (.invokevirtual 79, 3) := by decide +kernel
theorem dX7_cast_81 : decode cX7_cast 81 = .ok (.ireturn, 1) := by decide +kernel
def rm_X7_cast : Room := { frames := 2, cells := 0, slots := 0, locals := 43 }
set_option maxRecDepth 100000 in
set_option maxHeartbeats 4000000 in
theorem ok_X7_cast_15 {E : Ev} {X : Xt} {l0 : Launch} {K : Int32 → Hp → Prop} (hC : Cx E X l0 RX7 cX7_cast 4 rm_X7_cast) (hQ : CQ E X "cast" (some .int) rm_X7_cast (KI K)) (h : Hp) (hV : V_X7_cast_15 K  h) : WW E X h 0 0 15 [none, none, none, none] [] := by
  unfold V_X7_cast_15 at hV
  refine r_iconst (v := (-1)) hC dX7_cast_15 (by decide) ?_
  exact r_iret hC hQ dX7_cast_16 (Nat.le_of_ble_eq_true rfl) (Nat.le_of_ble_eq_true rfl) ⟨_, rfl, hV⟩
set_option maxRecDepth 100000 in
set_option maxHeartbeats 4000000 in
theorem ok_X7_cast_0 {E : Ev} {X : Xt} {l0 : Launch} {K : Int32 → Hp → Prop} (hC : Cx E X l0 RX7 cX7_cast 4 rm_X7_cast) (hQ : CQ E X "cast" (some .int) rm_X7_cast (KI K)) (a0 : Nat) (a1 : Int32) (a2 : Int32) (a3 : Int32) (h : Hp) (hV : V_X7_cast a0 a1 a2 a3 h K) : WW E X h 0 0 0 [some (rv a0), some (.int a1), some (.int a2), some (.int a3)] [] := by
  unfold V_X7_cast at hV
  refine r_aload_n hC dX7_cast_0 rfl ?_
  refine r_iload_n hC dX7_cast_1 rfl ?_
  obtain ⟨k9, hV⟩ := hV
  refine r_callV (ci := 7) (As := [.int a1]) hC dX7_cast_2 rfl cf_X7_noCase ml_7_72 im_X7_noCase sl_X7_noCase lq_7 rfl rfl k9 rfl ⟨Nat.le_of_ble_eq_true rfl, Nat.le_of_ble_eq_true rfl, Nat.le_of_ble_eq_true rfl, Nat.le_of_ble_eq_true rfl⟩ cs0 (Nat.le_of_ble_eq_true rfl) (con_X7_noCase a0 a1 h _ hV) rfl (kI (k := 0) (n := 0) (fun r1 h1 hV => ?_))
  refine r_if_ne (tgt := 15) hC dX7_cast_5 (by decide) (fun k9 => ?_) (fun k9 => ?_)
  · replace hV := hV.1 k9
    refine r_sub (lo1 := [none, none, none, none]) ⟨Or.inl rfl, ⟨Or.inl rfl, ⟨Or.inl rfl, ⟨Or.inl rfl, trivial⟩⟩⟩⟩ ?_
    exact ok_X7_cast_15 hC hQ  h1 hV
  · replace hV := hV.2 k9
    refine r_iload_n hC dX7_cast_8 rfl ?_
    refine r_callS (As := [.int a2]) hC dX7_cast_9 rfl cf_X7_noSort ml_7_76 st_X7_noSort rfl ⟨Nat.le_of_ble_eq_true rfl, Nat.le_of_ble_eq_true rfl, Nat.le_of_ble_eq_true rfl, Nat.le_of_ble_eq_true rfl⟩ cs0 (Nat.le_of_ble_eq_true rfl) (con_X7_noSort a2 h1 _ hV) rfl (kI (k := 0) (n := 0) (fun r2 h2 hV => ?_))
    refine r_if_eq (tgt := 17) hC dX7_cast_12 (by decide) (fun k9 => ?_) (fun k9 => ?_)
    · replace hV := hV.1 k9
      refine r_iload_n hC dX7_cast_17 rfl ?_
      refine r_iconst (v := 1) hC dX7_cast_18 (by decide) ?_
      refine r_bipush (v := 99) hC dX7_cast_19 (by decide) ?_
      refine r_callS (As := [.int a3, .int 1, .int 99]) hC dX7_cast_21 rfl cf_X7_in ml_7_56 st_X7_in rfl ⟨Nat.le_of_ble_eq_true rfl, Nat.le_of_ble_eq_true rfl, Nat.le_of_ble_eq_true rfl, Nat.le_of_ble_eq_true rfl⟩ cs0 (Nat.le_of_ble_eq_true rfl) (con_X7_in a3 1 99 h2 _ hV) rfl (kI (k := 0) (n := 0) (fun r3 h3 hV => ?_))
      refine r_if_ne (tgt := 30) hC dX7_cast_24 (by decide) (fun k9 => ?_) (fun k9 => ?_)
      · replace hV := hV.1 k9
        refine r_aload_n hC dX7_cast_30 rfl ?_
        refine r_iload_n hC dX7_cast_31 rfl ?_
        refine r_iload_n hC dX7_cast_32 rfl ?_
        obtain ⟨k9, hV⟩ := hV
        refine r_callV (ci := 7) (As := [.int a1, .int a2]) hC dX7_cast_33 rfl cf_X7_has ml_7_79 im_X7_has sl_X7_has lq_7 rfl rfl k9 rfl ⟨Nat.le_of_ble_eq_true rfl, Nat.le_of_ble_eq_true rfl, Nat.le_of_ble_eq_true rfl, Nat.le_of_ble_eq_true rfl⟩ cs0 (Nat.le_of_ble_eq_true rfl) (con_X7_has a0 a1 a2 h3 _ hV) rfl (kI (k := 0) (n := 0) (fun r4 h4 hV => ?_))
        refine r_iload_n hC dX7_cast_36 rfl ?_
        refine r_iadd hC dX7_cast_37 ?_
        refine r_bipush (v := 99) hC dX7_cast_38 (by decide) ?_
        refine r_icmp_le (tgt := 46) hC dX7_cast_40 (by decide) (fun k9 => ?_) (fun k9 => ?_)
        · replace hV := hV.1 k9
          refine r_iload_n hC dX7_cast_46 rfl ?_
          refine r_iload_n hC dX7_cast_47 rfl ?_
          refine r_callS (As := [.int a2]) hC dX7_cast_48 rfl cf_X7_width ml_7_68 st_X7_width rfl ⟨Nat.le_of_ble_eq_true rfl, Nat.le_of_ble_eq_true rfl, Nat.le_of_ble_eq_true rfl, Nat.le_of_ble_eq_true rfl⟩ (csI cs0) (Nat.le_of_ble_eq_true rfl) (con_X7_width a2 h4 _ hV) rfl (kI (k := 0) (n := 0) (fun r5 h5 hV => ?_))
          refine r_imul hC dX7_cast_51 ?_
          refine r_aload_n hC dX7_cast_52 rfl ?_
          obtain ⟨k9, hV⟩ := hV
          refine r_getR hC dX7_cast_53 fl_7_7 rf_7_0 lq_7 k9 ?_
          refine r_iconst (v := 2) hC dX7_cast_56 (by decide) ?_
          obtain ⟨k9, k8, hV⟩ := hV
          refine r_iald (kd := 60) hC dX7_cast_57 (by decide) rfl k9 k8 ?_
          refine r_icmp_le (tgt := 64) hC dX7_cast_58 (by decide) (fun k9 => ?_) (fun k9 => ?_)
          · replace hV := hV.1 k9
            refine r_aload_n hC dX7_cast_64 rfl ?_
            obtain ⟨k9, hV⟩ := hV
            refine r_callV (ci := 7) (As := []) hC dX7_cast_65 rfl cf_X7_record ml_7_65 im_X7_record sl_X7_record lq_7 rfl rfl k9 rfl ⟨Nat.le_of_ble_eq_true rfl, Nat.le_of_ble_eq_true rfl, Nat.le_of_ble_eq_true rfl, Nat.le_of_ble_eq_true rfl⟩ cs0 (Nat.le_of_ble_eq_true rfl) (con_X7_record a0 h5 _ hV) rfl (kV (k := 0) (n := 0) (fun h6 hV => ?_))
            refine r_aload_n hC dX7_cast_68 rfl ?_
            refine r_iload_n hC dX7_cast_69 rfl ?_
            refine r_iload_n hC dX7_cast_70 rfl ?_
            refine r_iload_n hC dX7_cast_71 rfl ?_
            obtain ⟨k9, hV⟩ := hV
            refine r_callV (ci := 7) (As := [.int a1, .int a2, .int a3]) hC dX7_cast_72 rfl cf_X7_casts ml_7_82 im_X7_casts sl_X7_casts lq_7 rfl rfl k9 rfl ⟨Nat.le_of_ble_eq_true rfl, Nat.le_of_ble_eq_true rfl, Nat.le_of_ble_eq_true rfl, Nat.le_of_ble_eq_true rfl⟩ cs0 (Nat.le_of_ble_eq_true rfl) (con_X7_casts a0 a1 a2 a3 h6 _ hV) rfl (kV (k := 0) (n := 0) (fun h7 hV => ?_))
            refine r_aload_n hC dX7_cast_75 rfl ?_
            refine r_iload_n hC dX7_cast_76 rfl ?_
            refine r_iload_n hC dX7_cast_77 rfl ?_
            obtain ⟨k9, hV⟩ := hV
            refine r_callV (ci := 7) (As := [.int a1, .int a2]) hC dX7_cast_78 rfl cf_X7_has ml_7_79 im_X7_has sl_X7_has lq_7 rfl rfl k9 rfl ⟨Nat.le_of_ble_eq_true rfl, Nat.le_of_ble_eq_true rfl, Nat.le_of_ble_eq_true rfl, Nat.le_of_ble_eq_true rfl⟩ cs0 (Nat.le_of_ble_eq_true rfl) (con_X7_has a0 a1 a2 h7 _ hV) rfl (kI (k := 0) (n := 0) (fun r6 h8 hV => ?_))
            exact r_iret hC hQ dX7_cast_81 (Nat.le_of_ble_eq_true rfl) (Nat.le_of_ble_eq_true rfl) ⟨_, rfl, hV⟩
          · replace hV := hV.2 k9
            refine r_bipush (v := (-4)) hC dX7_cast_61 (by decide) ?_
            exact r_iret hC hQ dX7_cast_63 (Nat.le_of_ble_eq_true rfl) (Nat.le_of_ble_eq_true rfl) ⟨_, rfl, hV⟩
        · replace hV := hV.2 k9
          refine r_bipush (v := (-3)) hC dX7_cast_43 (by decide) ?_
          exact r_iret hC hQ dX7_cast_45 (Nat.le_of_ble_eq_true rfl) (Nat.le_of_ble_eq_true rfl) ⟨_, rfl, hV⟩
      · replace hV := hV.2 k9
        refine r_bipush (v := (-2)) hC dX7_cast_27 (by decide) ?_
        exact r_iret hC hQ dX7_cast_29 (Nat.le_of_ble_eq_true rfl) (Nat.le_of_ble_eq_true rfl) ⟨_, rfl, hV⟩
    · replace hV := hV.2 k9
      refine r_sub (lo1 := [none, none, none, none]) ⟨Or.inl rfl, ⟨Or.inl rfl, ⟨Or.inl rfl, ⟨Or.inl rfl, trivial⟩⟩⟩⟩ ?_
      exact ok_X7_cast_15 hC hQ  h2 hV
set_option maxRecDepth 100000 in
set_option maxHeartbeats 4000000 in
theorem con_X7_cast {E : Ev} {l0 : Launch} (a0 : Nat) (a1 : Int32) (a2 : Int32) (a3 : Int32) (h : Hp) (K : Int32 → Hp → Prop) (hV : V_X7_cast a0 a1 a2 a3 h K) : Con E l0 yX7_cast cX7_cast 4 (some .int) rm_X7_cast [rv a0, .int a1, .int a2, .int a3] h (KI K) := by
  refine Con.of (by decide +kernel) (cat_R (cat_I (cat_I (cat_I cat_nil)))) (Nat.le_of_ble_eq_true rfl) (fun X hC hQ => ?_)
  refine r_sub (lo1 := [some (rv a0), some (.int a1), some (.int a2), some (.int a3)]) (show lsub [some (rv a0), some (.int a1), some (.int a2), some (.int a3)] _ from ⟨Or.inr rfl, ⟨Or.inr rfl, ⟨Or.inr rfl, ⟨Or.inr rfl, trivial⟩⟩⟩⟩) ?_
  exact ok_X7_cast_0 hC hQ a0 a1 a2 a3 h hV
theorem dX7_castFount_0 : decode cX7_castFount 0 = .ok (.aload_n 0, 1) := by decide +kernel
theorem dX7_castFount_1 : decode cX7_castFount 1 = .ok (.iload_n 1, 1) := by decide +kernel
theorem dX7_castFount_2 : decode cX7_castFount 2 = .ok (.invokevirtual 72, 3) := by decide +kernel
theorem dX7_castFount_5 : decode cX7_castFount 5 = .ok (.ifCond .eq 5, 3) := by decide +kernel
theorem dX7_castFount_8 : decode cX7_castFount 8 = .ok (.iconst (-1), 1) := by decide +kernel
theorem dX7_castFount_9 : decode cX7_castFount 9 = .ok (.ireturn, 1) := by decide +kernel
theorem dX7_castFount_10 : decode cX7_castFount 10 = .ok (.iload_n 2, 1) := by decide +kernel
theorem dX7_castFount_11 : decode cX7_castFount 11 = .ok (.iconst 1, 1) := by decide +kernel
theorem dX7_castFount_12 : decode cX7_castFount 12 = .ok (.bipush 9, 2) := by decide +kernel
theorem dX7_castFount_14 : decode cX7_castFount 14 = .ok (.invokestatic 56, 3) := by decide +kernel
theorem dX7_castFount_17 : decode cX7_castFount 17 = .ok (.ifCond .ne 6, 3) := by decide +kernel
theorem dX7_castFount_20 : decode cX7_castFount 20 = .ok (.bipush (-2), 2) := by decide +kernel
theorem dX7_castFount_22 : decode cX7_castFount 22 = .ok (.ireturn, 1) := by decide +kernel
theorem dX7_castFount_23 : decode cX7_castFount 23 = .ok (.iconst 0, 1) := by decide +kernel
theorem dX7_castFount_24 : decode cX7_castFount 24 = .ok (.istore_n 3, 1) := by decide +kernel
theorem dX7_castFount_25 : decode cX7_castFount 25 = .ok (.iconst 0, 1) := by decide +kernel
theorem dX7_castFount_26 : decode cX7_castFount 26 = .ok (.istore 4, 2) := by decide +kernel
theorem dX7_castFount_28 : decode cX7_castFount 28 = .ok (.iconst 0, 1) := by decide +kernel
theorem dX7_castFount_29 : decode cX7_castFount 29 = .ok (.istore 5, 2) := by decide +kernel
theorem dX7_castFount_31 : decode cX7_castFount 31 = .ok (.iload 5, 2) := by decide +kernel
theorem dX7_castFount_33 : decode cX7_castFount 33 = .ok (.bipush 29, 2) := by decide +kernel
theorem dX7_castFount_35 : decode cX7_castFount 35 = .ok (.if_icmp .ge 63, 3) := by decide +kernel
theorem dX7_castFount_38 : decode cX7_castFount 38 = .ok (.iload 5, 2) := by decide +kernel
theorem dX7_castFount_40 : decode cX7_castFount 40 = .ok (.bipush 26, 2) := by decide +kernel
theorem dX7_castFount_42 : decode cX7_castFount 42 = .ok (.if_icmp .ge 7, 3) := by decide +kernel
theorem dX7_castFount_45 : decode cX7_castFount 45 = .ok (.iload_n 2, 1) := by decide +kernel
theorem dX7_castFount_46 : decode cX7_castFount 46 = .ok (.goto 6, 3) := by decide +kernel
theorem dX7_castFount_49 : decode cX7_castFount 49 = .ok (.iconst 2, 1) := by decide +kernel
theorem dX7_castFount_50 : decode cX7_castFount 50 = .ok (.iload_n 2, 1) := by decide +kernel
theorem dX7_castFount_51 : decode cX7_castFount 51 = .ok (.imul, 1) := by decide +kernel
theorem dX7_castFount_52 : decode cX7_castFount 52 = .ok (.istore 6, 2) := by decide +kernel
theorem dX7_castFount_54 : decode cX7_castFount 54 = .ok (.iload 4, 2) := by decide +kernel
theorem dX7_castFount_56 : decode cX7_castFount 56 = .ok (.ifCond .ne 18, 3) := by decide +kernel
theorem dX7_castFount_59 : decode cX7_castFount 59 = .ok (.aload_n 0, 1) := by decide +kernel
theorem dX7_castFount_60 : decode cX7_castFount 60 = .ok (.iload_n 1, 1) := by decide +kernel
theorem dX7_castFount_61 : decode cX7_castFount 61 = .ok (.iload 5, 2) := by decide +kernel
theorem dX7_castFount_63 : decode cX7_castFount 63 = .ok (.invokevirtual 79, 3) := by decide +kernel
theorem dX7_castFount_66 : decode cX7_castFount 66 = .ok (.iload 6, 2) := by decide +kernel
theorem dX7_castFount_68 : decode cX7_castFount 68 = .ok (.iadd, 1) := by decide +kernel
theorem dX7_castFount_69 : decode cX7_castFount 69 = .ok (.bipush 99, 2) := by decide +kernel
theorem dX7_castFount_71 : decode cX7_castFount 71 = .ok (.if_icmp .le 7, 3) := by decide +kernel
theorem dX7_castFount_74 : decode cX7_castFount 74 = .ok (.iconst 1, 1) := by decide +kernel
theorem dX7_castFount_75 : decode cX7_castFount 75 = .ok (.goto 4, 3) := by decide +kernel
theorem dX7_castFount_78 : decode cX7_castFount 78 = .ok (.iconst 0, 1) := by decide +kernel
theorem dX7_castFount_79 : decode cX7_castFount 79 = .ok (.istore 4, 2) := by decide +kernel
theorem dX7_castFount_81 : decode cX7_castFount 81 = .ok (.iload_n 3, 1) := by decide +kernel
theorem dX7_castFount_82 : decode cX7_castFount 82 = .ok (.iload 6, 2) := by decide +kernel
theorem dX7_castFount_84 : decode cX7_castFount 84 = .ok (.iload 5, 2) := by decide +kernel
theorem dX7_castFount_86 : decode cX7_castFount 86 = .ok (.invokestatic 68, 3) := by decide +kernel
theorem dX7_castFount_89 : decode cX7_castFount 89 = .ok (.imul, 1) := by decide +kernel
theorem dX7_castFount_90 : decode cX7_castFount 90 = .ok (.iadd, 1) := by decide +kernel
theorem dX7_castFount_91 : decode cX7_castFount 91 = .ok (.istore_n 3, 1) := by decide +kernel
theorem dX7_castFount_92 : decode cX7_castFount 92 = .ok (.iinc 5 1, 3) := by decide +kernel
theorem dX7_castFount_95 : decode cX7_castFount 95 = .ok (.goto (-64), 3) := by decide +kernel
theorem dX7_castFount_98 : decode cX7_castFount 98 = .ok (.iload 4, 2) := by decide +kernel
theorem dX7_castFount_100 : decode cX7_castFount 100 = .ok (.ifCond .eq 6, 3) := by decide +kernel
theorem dX7_castFount_103 : decode cX7_castFount 103 = .ok (.bipush (-3), 2) := by decide +kernel
theorem dX7_castFount_105 : decode cX7_castFount 105 = .ok (.ireturn, 1) := by decide +kernel
theorem dX7_castFount_106 : decode cX7_castFount 106 = .ok (.iload_n 3, 1) := by decide +kernel
theorem dX7_castFount_107 : decode cX7_castFount 107 = .ok (.aload_n 0, 1) := by decide +kernel
theorem dX7_castFount_108 : decode cX7_castFount 108 = .ok (.getfield 7, 3) := by decide +kernel
theorem dX7_castFount_111 : decode cX7_castFount 111 = .ok (.iconst 2, 1) := by decide +kernel
theorem dX7_castFount_112 : decode cX7_castFount 112 = .ok (.iaload, 1) := by decide +kernel
theorem dX7_castFount_113 : decode cX7_castFount 113 = .ok (.if_icmp .le 6, 3) := by decide +kernel
theorem dX7_castFount_116 : decode cX7_castFount 116 = .ok (.bipush (-4), 2) := by decide +kernel
theorem dX7_castFount_118 : decode cX7_castFount 118 = .ok (.ireturn, 1) := by decide +kernel
theorem dX7_castFount_119 : decode cX7_castFount 119 = .ok (.aload_n 0, 1) := by decide +kernel
theorem dX7_castFount_120 : decode cX7_castFount 120 = .ok (.invokevirtual 65, 3) := by decide +kernel
theorem dX7_castFount_123 : decode cX7_castFount 123 = .ok (.iconst 0, 1) := by decide +kernel
theorem dX7_castFount_124 : decode cX7_castFount 124 = .ok (.istore 5, 2) := by decide +kernel
theorem dX7_castFount_126 : decode cX7_castFount 126 = .ok (.iload 5, 2) := by decide +kernel
theorem dX7_castFount_128 : decode cX7_castFount 128 = .ok (.bipush 29, 2) := by decide +kernel
theorem dX7_castFount_130 : decode cX7_castFount 130 = .ok (.if_icmp .ge 30, 3) := by decide +kernel
theorem dX7_castFount_133 : decode cX7_castFount 133 = .ok (.aload_n 0, 1) := by decide +kernel
theorem dX7_castFount_134 : decode cX7_castFount 134 = .ok (.iload_n 1, 1) := by decide +kernel
theorem dX7_castFount_135 : decode cX7_castFount 135 = .ok (.iload 5, 2) := by decide +kernel
theorem dX7_castFount_137 : decode cX7_castFount 137 = .ok (.iload 5, 2) := by decide +kernel
theorem dX7_castFount_139 : decode cX7_castFount 139 = .ok (.bipush 26, 2) := by decide +kernel
theorem dX7_castFount_141 : decode cX7_castFount 141 = .ok (.if_icmp .ge 7, 3) := by decide +kernel
theorem dX7_castFount_144 : decode cX7_castFount 144 = .ok (.iload_n 2, 1) := by decide +kernel
theorem dX7_castFount_145 : decode cX7_castFount 145 = .ok (.goto 6, 3) := by decide +kernel
theorem dX7_castFount_148 : decode cX7_castFount 148 = .ok (.iconst 2, 1) := by decide +kernel
theorem dX7_castFount_149 : decode cX7_castFount 149 = .ok (.iload_n 2, 1) := by decide +kernel
theorem dX7_castFount_150 : decode cX7_castFount 150 = .ok (.imul, 1) := by decide +kernel
theorem dX7_castFount_151 : decode cX7_castFount 151 = .ok (.invokevirtual 82, 3) := by decide +kernel
theorem dX7_castFount_154 : decode cX7_castFount 154 = .ok (.iinc 5 1, 3) := by decide +kernel
theorem dX7_castFount_157 : decode cX7_castFount 157 = .ok (.goto (-31), 3) := by decide +kernel
theorem dX7_castFount_160 : decode cX7_castFount 160 = .ok (.bipush 32, 2) := by decide +kernel
theorem dX7_castFount_162 : decode cX7_castFount 162 = .ok (.iload_n 2, 1) := by decide +kernel
theorem dX7_castFount_163 : decode cX7_castFount 163 = .ok (.imul, 1) := by decide +kernel
theorem dX7_castFount_164 : decode cX7_castFount 164 = .ok (.ireturn, 1) := by decide +kernel
def rm_X7_castFount : Room := { frames := 2, cells := 0, slots := 0, locals := 43 }
set_option maxRecDepth 100000 in
set_option maxHeartbeats 4000000 in
theorem ok_X7_castFount_79 {E : Ev} {X : Xt} {l0 : Launch} {K : Int32 → Hp → Prop} {C31 : Nat → Int32 → Int32 → Int32 → Int32 → Int32 → Hp → Prop} (hC : Cx E X l0 RX7 cX7_castFount 7 rm_X7_castFount) (hQ : CQ E X "castFount" (some .int) rm_X7_castFount (KI K)) (hC31 : ∀ (a0 : Nat) (a1 : Int32) (a2 : Int32) (a3 : Int32) (a4 : Int32) (a5 : Int32) (h : Hp), C31 a0 a1 a2 a3 a4 a5 h → WW E X h 0 0 31 [some (rv a0), some (.int a1), some (.int a2), some (.int a3), some (.int a4), some (.int a5), none] []) (a0 : Nat) (a1 : Int32) (a2 : Int32) (a3 : Int32) (a5 : Int32) (a6 : Int32) (s0 : Int32) (h : Hp) (hV : V_X7_castFount_79 K C31 a0 a1 a2 a3 a5 a6 s0 h) : WW E X h 0 0 79 [some (rv a0), some (.int a1), some (.int a2), some (.int a3), none, some (.int a5), some (.int a6)] [.int s0] := by
  unfold V_X7_castFount_79 at hV
  refine r_istore (lo1 := [some (rv a0), some (.int a1), some (.int a2), some (.int a3), some (.int s0), some (.int a5), some (.int a6)]) hC dX7_castFount_79 (Nat.le_of_ble_eq_true rfl) rfl ?_
  refine r_iload_n hC dX7_castFount_81 rfl ?_
  refine r_iload hC dX7_castFount_82 rfl ?_
  refine r_iload hC dX7_castFount_84 rfl ?_
  refine r_callS (As := [.int a5]) hC dX7_castFount_86 rfl cf_X7_width ml_7_68 st_X7_width rfl ⟨Nat.le_of_ble_eq_true rfl, Nat.le_of_ble_eq_true rfl, Nat.le_of_ble_eq_true rfl, Nat.le_of_ble_eq_true rfl⟩ (csI (csI cs0)) (Nat.le_of_ble_eq_true rfl) (con_X7_width a5 h _ hV) rfl (kI (k := 0) (n := 0) (fun r1 h1 hV => ?_))
  refine r_imul hC dX7_castFount_89 ?_
  refine r_iadd hC dX7_castFount_90 ?_
  refine r_istore_n (lo1 := [some (rv a0), some (.int a1), some (.int a2), some (.int (a3 + (a6 * r1))), some (.int s0), some (.int a5), some (.int a6)]) hC dX7_castFount_91 (Nat.le_of_ble_eq_true rfl) rfl ?_
  refine r_iinc (v := 1) (lo1 := [some (rv a0), some (.int a1), some (.int a2), some (.int (a3 + (a6 * r1))), some (.int s0), some (.int (a5 + 1)), some (.int a6)]) hC dX7_castFount_92 rfl (by decide) rfl ?_
  refine r_goto (tgt := 31) hC dX7_castFount_95 (by decide) ?_
  refine r_sub (lo1 := [some (rv a0), some (.int a1), some (.int a2), some (.int (a3 + (a6 * r1))), some (.int s0), some (.int (a5 + 1)), none]) ⟨Or.inr rfl, ⟨Or.inr rfl, ⟨Or.inr rfl, ⟨Or.inr rfl, ⟨Or.inr rfl, ⟨Or.inr rfl, ⟨Or.inl rfl, trivial⟩⟩⟩⟩⟩⟩⟩ ?_
  exact hC31 a0 a1 a2 (a3 + (a6 * r1)) s0 (a5 + 1) h1 hV
set_option maxRecDepth 100000 in
set_option maxHeartbeats 4000000 in
theorem ok_X7_castFount_74 {E : Ev} {X : Xt} {l0 : Launch} {K : Int32 → Hp → Prop} {C31 : Nat → Int32 → Int32 → Int32 → Int32 → Int32 → Hp → Prop} (hC : Cx E X l0 RX7 cX7_castFount 7 rm_X7_castFount) (hQ : CQ E X "castFount" (some .int) rm_X7_castFount (KI K)) (hC31 : ∀ (a0 : Nat) (a1 : Int32) (a2 : Int32) (a3 : Int32) (a4 : Int32) (a5 : Int32) (h : Hp), C31 a0 a1 a2 a3 a4 a5 h → WW E X h 0 0 31 [some (rv a0), some (.int a1), some (.int a2), some (.int a3), some (.int a4), some (.int a5), none] []) (a0 : Nat) (a1 : Int32) (a2 : Int32) (a3 : Int32) (a5 : Int32) (a6 : Int32) (h : Hp) (hV : V_X7_castFount_74 K C31 a0 a1 a2 a3 a5 a6 h) : WW E X h 0 0 74 [some (rv a0), some (.int a1), some (.int a2), some (.int a3), none, some (.int a5), some (.int a6)] [] := by
  unfold V_X7_castFount_74 at hV
  refine r_iconst (v := 1) hC dX7_castFount_74 (by decide) ?_
  refine r_goto (tgt := 79) hC dX7_castFount_75 (by decide) ?_
  exact ok_X7_castFount_79 hC hQ hC31 a0 a1 a2 a3 a5 a6 1 h hV
set_option maxRecDepth 100000 in
set_option maxHeartbeats 4000000 in
theorem ok_X7_castFount_52 {E : Ev} {X : Xt} {l0 : Launch} {K : Int32 → Hp → Prop} {C31 : Nat → Int32 → Int32 → Int32 → Int32 → Int32 → Hp → Prop} (hC : Cx E X l0 RX7 cX7_castFount 7 rm_X7_castFount) (hQ : CQ E X "castFount" (some .int) rm_X7_castFount (KI K)) (hC31 : ∀ (a0 : Nat) (a1 : Int32) (a2 : Int32) (a3 : Int32) (a4 : Int32) (a5 : Int32) (h : Hp), C31 a0 a1 a2 a3 a4 a5 h → WW E X h 0 0 31 [some (rv a0), some (.int a1), some (.int a2), some (.int a3), some (.int a4), some (.int a5), none] []) (a0 : Nat) (a1 : Int32) (a2 : Int32) (a3 : Int32) (a4 : Int32) (a5 : Int32) (s0 : Int32) (h : Hp) (hV : V_X7_castFount_52 K C31 a0 a1 a2 a3 a4 a5 s0 h) : WW E X h 0 0 52 [some (rv a0), some (.int a1), some (.int a2), some (.int a3), some (.int a4), some (.int a5), none] [.int s0] := by
  unfold V_X7_castFount_52 at hV
  refine r_istore (lo1 := [some (rv a0), some (.int a1), some (.int a2), some (.int a3), some (.int a4), some (.int a5), some (.int s0)]) hC dX7_castFount_52 (Nat.le_of_ble_eq_true rfl) rfl ?_
  refine r_iload hC dX7_castFount_54 rfl ?_
  refine r_if_ne (tgt := 74) hC dX7_castFount_56 (by decide) (fun k9 => ?_) (fun k9 => ?_)
  · replace hV := hV.1 k9
    refine r_sub (lo1 := [some (rv a0), some (.int a1), some (.int a2), some (.int a3), none, some (.int a5), some (.int s0)]) ⟨Or.inr rfl, ⟨Or.inr rfl, ⟨Or.inr rfl, ⟨Or.inr rfl, ⟨Or.inl rfl, ⟨Or.inr rfl, ⟨Or.inr rfl, trivial⟩⟩⟩⟩⟩⟩⟩ ?_
    exact ok_X7_castFount_74 hC hQ hC31 a0 a1 a2 a3 a5 s0 h hV
  · replace hV := hV.2 k9
    refine r_aload_n hC dX7_castFount_59 rfl ?_
    refine r_iload_n hC dX7_castFount_60 rfl ?_
    refine r_iload hC dX7_castFount_61 rfl ?_
    obtain ⟨k9, hV⟩ := hV
    refine r_callV (ci := 7) (As := [.int a1, .int a5]) hC dX7_castFount_63 rfl cf_X7_has ml_7_79 im_X7_has sl_X7_has lq_7 rfl rfl k9 rfl ⟨Nat.le_of_ble_eq_true rfl, Nat.le_of_ble_eq_true rfl, Nat.le_of_ble_eq_true rfl, Nat.le_of_ble_eq_true rfl⟩ cs0 (Nat.le_of_ble_eq_true rfl) (con_X7_has a0 a1 a5 h _ hV) rfl (kI (k := 0) (n := 0) (fun r1 h1 hV => ?_))
    refine r_iload hC dX7_castFount_66 rfl ?_
    refine r_iadd hC dX7_castFount_68 ?_
    refine r_bipush (v := 99) hC dX7_castFount_69 (by decide) ?_
    refine r_icmp_le (tgt := 78) hC dX7_castFount_71 (by decide) (fun k9 => ?_) (fun k9 => ?_)
    · replace hV := hV.1 k9
      refine r_iconst (v := 0) hC dX7_castFount_78 (by decide) ?_
      refine r_sub (lo1 := [some (rv a0), some (.int a1), some (.int a2), some (.int a3), none, some (.int a5), some (.int s0)]) ⟨Or.inr rfl, ⟨Or.inr rfl, ⟨Or.inr rfl, ⟨Or.inr rfl, ⟨Or.inl rfl, ⟨Or.inr rfl, ⟨Or.inr rfl, trivial⟩⟩⟩⟩⟩⟩⟩ ?_
      exact ok_X7_castFount_79 hC hQ hC31 a0 a1 a2 a3 a5 s0 0 h1 hV
    · replace hV := hV.2 k9
      refine r_sub (lo1 := [some (rv a0), some (.int a1), some (.int a2), some (.int a3), none, some (.int a5), some (.int s0)]) ⟨Or.inr rfl, ⟨Or.inr rfl, ⟨Or.inr rfl, ⟨Or.inr rfl, ⟨Or.inl rfl, ⟨Or.inr rfl, ⟨Or.inr rfl, trivial⟩⟩⟩⟩⟩⟩⟩ ?_
      exact ok_X7_castFount_74 hC hQ hC31 a0 a1 a2 a3 a5 s0 h1 hV
set_option maxRecDepth 100000 in
set_option maxHeartbeats 4000000 in
theorem ok_X7_castFount_151 {E : Ev} {X : Xt} {l0 : Launch} {K : Int32 → Hp → Prop} {C126 : Nat → Int32 → Int32 → Int32 → Hp → Prop} (hC : Cx E X l0 RX7 cX7_castFount 7 rm_X7_castFount) (hQ : CQ E X "castFount" (some .int) rm_X7_castFount (KI K)) (hC126 : ∀ (a0 : Nat) (a1 : Int32) (a2 : Int32) (a5 : Int32) (h : Hp), C126 a0 a1 a2 a5 h → WW E X h 0 0 126 [some (rv a0), some (.int a1), some (.int a2), none, none, some (.int a5), none] []) (a0 : Nat) (a1 : Int32) (a2 : Int32) (a5 : Int32) (s0 : Nat) (s1 : Int32) (s2 : Int32) (s3 : Int32) (h : Hp) (hV : V_X7_castFount_151 K C126 a0 a1 a2 a5 s0 s1 s2 s3 h) : WW E X h 0 0 151 [some (rv a0), some (.int a1), some (.int a2), none, none, some (.int a5), none] [.int s3, .int s2, .int s1, rv s0] := by
  unfold V_X7_castFount_151 at hV
  obtain ⟨k9, hV⟩ := hV
  refine r_callV (ci := 7) (As := [.int s1, .int s2, .int s3]) hC dX7_castFount_151 rfl cf_X7_casts ml_7_82 im_X7_casts sl_X7_casts lq_7 rfl rfl k9 rfl ⟨Nat.le_of_ble_eq_true rfl, Nat.le_of_ble_eq_true rfl, Nat.le_of_ble_eq_true rfl, Nat.le_of_ble_eq_true rfl⟩ cs0 (Nat.le_of_ble_eq_true rfl) (con_X7_casts s0 s1 s2 s3 h _ hV) rfl (kV (k := 0) (n := 0) (fun h1 hV => ?_))
  refine r_iinc (v := 1) (lo1 := [some (rv a0), some (.int a1), some (.int a2), none, none, some (.int (a5 + 1)), none]) hC dX7_castFount_154 rfl (by decide) rfl ?_
  refine r_goto (tgt := 126) hC dX7_castFount_157 (by decide) ?_
  exact hC126 a0 a1 a2 (a5 + 1) h1 hV
set_option maxRecDepth 100000 in
set_option maxHeartbeats 4000000 in
theorem ok_X7_castFount_126 {E : Ev} {X : Xt} {l0 : Launch} {K : Int32 → Hp → Prop} (hC : Cx E X l0 RX7 cX7_castFount 7 rm_X7_castFount) (hQ : CQ E X "castFount" (some .int) rm_X7_castFount (KI K)) : ∀ (n : Nat) (a0 : Nat) (a1 : Int32) (a2 : Int32) (a5 : Int32) (h : Hp), V_X7_castFount_126 K n a0 a1 a2 a5 h → WW E X h 0 0 126 [some (rv a0), some (.int a1), some (.int a2), none, none, some (.int a5), none] [] := by
  intro n
  induction n with
  | zero => intro a0 a1 a2 a5 h hV; exact hV.elim
  | succ n ih =>
    intro a0 a1 a2 a5 h hV
    unfold V_X7_castFount_126 at hV
    refine r_iload hC dX7_castFount_126 rfl ?_
    refine r_bipush (v := 29) hC dX7_castFount_128 (by decide) ?_
    refine r_icmp_ge (tgt := 160) hC dX7_castFount_130 (by decide) (fun k9 => ?_) (fun k9 => ?_)
    · replace hV := hV.1 k9
      refine r_bipush (v := 32) hC dX7_castFount_160 (by decide) ?_
      refine r_iload_n hC dX7_castFount_162 rfl ?_
      refine r_imul hC dX7_castFount_163 ?_
      exact r_iret hC hQ dX7_castFount_164 (Nat.le_of_ble_eq_true rfl) (Nat.le_of_ble_eq_true rfl) ⟨_, rfl, hV⟩
    · replace hV := hV.2 k9
      refine r_aload_n hC dX7_castFount_133 rfl ?_
      refine r_iload_n hC dX7_castFount_134 rfl ?_
      refine r_iload hC dX7_castFount_135 rfl ?_
      refine r_iload hC dX7_castFount_137 rfl ?_
      refine r_bipush (v := 26) hC dX7_castFount_139 (by decide) ?_
      refine r_icmp_ge (tgt := 148) hC dX7_castFount_141 (by decide) (fun k9 => ?_) (fun k9 => ?_)
      · replace hV := hV.1 k9
        refine r_iconst (v := 2) hC dX7_castFount_148 (by decide) ?_
        refine r_iload_n hC dX7_castFount_149 rfl ?_
        refine r_imul hC dX7_castFount_150 ?_
        exact ok_X7_castFount_151 hC hQ ih a0 a1 a2 a5 a0 a1 a5 (2 * a2) h hV
      · replace hV := hV.2 k9
        refine r_iload_n hC dX7_castFount_144 rfl ?_
        refine r_goto (tgt := 151) hC dX7_castFount_145 (by decide) ?_
        exact ok_X7_castFount_151 hC hQ ih a0 a1 a2 a5 a0 a1 a5 a2 h hV
set_option maxRecDepth 100000 in
set_option maxHeartbeats 4000000 in
theorem ok_X7_castFount_31 {E : Ev} {X : Xt} {l0 : Launch} {K : Int32 → Hp → Prop} (hC : Cx E X l0 RX7 cX7_castFount 7 rm_X7_castFount) (hQ : CQ E X "castFount" (some .int) rm_X7_castFount (KI K)) : ∀ (n : Nat) (a0 : Nat) (a1 : Int32) (a2 : Int32) (a3 : Int32) (a4 : Int32) (a5 : Int32) (h : Hp), V_X7_castFount_31 K n a0 a1 a2 a3 a4 a5 h → WW E X h 0 0 31 [some (rv a0), some (.int a1), some (.int a2), some (.int a3), some (.int a4), some (.int a5), none] [] := by
  intro n
  induction n with
  | zero => intro a0 a1 a2 a3 a4 a5 h hV; exact hV.elim
  | succ n ih =>
    intro a0 a1 a2 a3 a4 a5 h hV
    unfold V_X7_castFount_31 at hV
    refine r_iload hC dX7_castFount_31 rfl ?_
    refine r_bipush (v := 29) hC dX7_castFount_33 (by decide) ?_
    refine r_icmp_ge (tgt := 98) hC dX7_castFount_35 (by decide) (fun k9 => ?_) (fun k9 => ?_)
    · replace hV := hV.1 k9
      refine r_iload hC dX7_castFount_98 rfl ?_
      refine r_if_eq (tgt := 106) hC dX7_castFount_100 (by decide) (fun k9 => ?_) (fun k9 => ?_)
      · replace hV := hV.1 k9
        refine r_iload_n hC dX7_castFount_106 rfl ?_
        refine r_aload_n hC dX7_castFount_107 rfl ?_
        obtain ⟨k9, hV⟩ := hV
        refine r_getR hC dX7_castFount_108 fl_7_7 rf_7_0 lq_7 k9 ?_
        refine r_iconst (v := 2) hC dX7_castFount_111 (by decide) ?_
        obtain ⟨k9, k8, hV⟩ := hV
        refine r_iald (kd := 60) hC dX7_castFount_112 (by decide) rfl k9 k8 ?_
        refine r_icmp_le (tgt := 119) hC dX7_castFount_113 (by decide) (fun k9 => ?_) (fun k9 => ?_)
        · replace hV := hV.1 k9
          refine r_aload_n hC dX7_castFount_119 rfl ?_
          obtain ⟨k9, hV⟩ := hV
          refine r_callV (ci := 7) (As := []) hC dX7_castFount_120 rfl cf_X7_record ml_7_65 im_X7_record sl_X7_record lq_7 rfl rfl k9 rfl ⟨Nat.le_of_ble_eq_true rfl, Nat.le_of_ble_eq_true rfl, Nat.le_of_ble_eq_true rfl, Nat.le_of_ble_eq_true rfl⟩ cs0 (Nat.le_of_ble_eq_true rfl) (con_X7_record a0 h _ hV) rfl (kV (k := 0) (n := 0) (fun h1 hV => ?_))
          refine r_iconst (v := 0) hC dX7_castFount_123 (by decide) ?_
          refine r_istore (lo1 := [some (rv a0), some (.int a1), some (.int a2), some (.int a3), some (.int a4), some (.int 0), none]) hC dX7_castFount_124 (Nat.le_of_ble_eq_true rfl) rfl ?_
          refine r_sub (lo1 := [some (rv a0), some (.int a1), some (.int a2), none, none, some (.int 0), none]) ⟨Or.inr rfl, ⟨Or.inr rfl, ⟨Or.inr rfl, ⟨Or.inl rfl, ⟨Or.inl rfl, ⟨Or.inr rfl, ⟨Or.inl rfl, trivial⟩⟩⟩⟩⟩⟩⟩ ?_
          obtain ⟨n9, hV⟩ := hV
          exact ok_X7_castFount_126 hC hQ n9 a0 a1 a2 0 h1 hV
        · replace hV := hV.2 k9
          refine r_bipush (v := (-4)) hC dX7_castFount_116 (by decide) ?_
          exact r_iret hC hQ dX7_castFount_118 (Nat.le_of_ble_eq_true rfl) (Nat.le_of_ble_eq_true rfl) ⟨_, rfl, hV⟩
      · replace hV := hV.2 k9
        refine r_bipush (v := (-3)) hC dX7_castFount_103 (by decide) ?_
        exact r_iret hC hQ dX7_castFount_105 (Nat.le_of_ble_eq_true rfl) (Nat.le_of_ble_eq_true rfl) ⟨_, rfl, hV⟩
    · replace hV := hV.2 k9
      refine r_iload hC dX7_castFount_38 rfl ?_
      refine r_bipush (v := 26) hC dX7_castFount_40 (by decide) ?_
      refine r_icmp_ge (tgt := 49) hC dX7_castFount_42 (by decide) (fun k9 => ?_) (fun k9 => ?_)
      · replace hV := hV.1 k9
        refine r_iconst (v := 2) hC dX7_castFount_49 (by decide) ?_
        refine r_iload_n hC dX7_castFount_50 rfl ?_
        refine r_imul hC dX7_castFount_51 ?_
        exact ok_X7_castFount_52 hC hQ ih a0 a1 a2 a3 a4 a5 (2 * a2) h hV
      · replace hV := hV.2 k9
        refine r_iload_n hC dX7_castFount_45 rfl ?_
        refine r_goto (tgt := 52) hC dX7_castFount_46 (by decide) ?_
        exact ok_X7_castFount_52 hC hQ ih a0 a1 a2 a3 a4 a5 a2 h hV
set_option maxRecDepth 100000 in
set_option maxHeartbeats 4000000 in
theorem ok_X7_castFount_0 {E : Ev} {X : Xt} {l0 : Launch} {K : Int32 → Hp → Prop} (hC : Cx E X l0 RX7 cX7_castFount 7 rm_X7_castFount) (hQ : CQ E X "castFount" (some .int) rm_X7_castFount (KI K)) (a0 : Nat) (a1 : Int32) (a2 : Int32) (h : Hp) (hV : V_X7_castFount a0 a1 a2 h K) : WW E X h 0 0 0 [some (rv a0), some (.int a1), some (.int a2), none, none, none, none] [] := by
  unfold V_X7_castFount at hV
  refine r_aload_n hC dX7_castFount_0 rfl ?_
  refine r_iload_n hC dX7_castFount_1 rfl ?_
  obtain ⟨k9, hV⟩ := hV
  refine r_callV (ci := 7) (As := [.int a1]) hC dX7_castFount_2 rfl cf_X7_noCase ml_7_72 im_X7_noCase sl_X7_noCase lq_7 rfl rfl k9 rfl ⟨Nat.le_of_ble_eq_true rfl, Nat.le_of_ble_eq_true rfl, Nat.le_of_ble_eq_true rfl, Nat.le_of_ble_eq_true rfl⟩ cs0 (Nat.le_of_ble_eq_true rfl) (con_X7_noCase a0 a1 h _ hV) rfl (kI (k := 0) (n := 0) (fun r1 h1 hV => ?_))
  refine r_if_eq (tgt := 10) hC dX7_castFount_5 (by decide) (fun k9 => ?_) (fun k9 => ?_)
  · replace hV := hV.1 k9
    refine r_iload_n hC dX7_castFount_10 rfl ?_
    refine r_iconst (v := 1) hC dX7_castFount_11 (by decide) ?_
    refine r_bipush (v := 9) hC dX7_castFount_12 (by decide) ?_
    refine r_callS (As := [.int a2, .int 1, .int 9]) hC dX7_castFount_14 rfl cf_X7_in ml_7_56 st_X7_in rfl ⟨Nat.le_of_ble_eq_true rfl, Nat.le_of_ble_eq_true rfl, Nat.le_of_ble_eq_true rfl, Nat.le_of_ble_eq_true rfl⟩ cs0 (Nat.le_of_ble_eq_true rfl) (con_X7_in a2 1 9 h1 _ hV) rfl (kI (k := 0) (n := 0) (fun r2 h2 hV => ?_))
    refine r_if_ne (tgt := 23) hC dX7_castFount_17 (by decide) (fun k9 => ?_) (fun k9 => ?_)
    · replace hV := hV.1 k9
      refine r_iconst (v := 0) hC dX7_castFount_23 (by decide) ?_
      refine r_istore_n (lo1 := [some (rv a0), some (.int a1), some (.int a2), some (.int 0), none, none, none]) hC dX7_castFount_24 (Nat.le_of_ble_eq_true rfl) rfl ?_
      refine r_iconst (v := 0) hC dX7_castFount_25 (by decide) ?_
      refine r_istore (lo1 := [some (rv a0), some (.int a1), some (.int a2), some (.int 0), some (.int 0), none, none]) hC dX7_castFount_26 (Nat.le_of_ble_eq_true rfl) rfl ?_
      refine r_iconst (v := 0) hC dX7_castFount_28 (by decide) ?_
      refine r_istore (lo1 := [some (rv a0), some (.int a1), some (.int a2), some (.int 0), some (.int 0), some (.int 0), none]) hC dX7_castFount_29 (Nat.le_of_ble_eq_true rfl) rfl ?_
      obtain ⟨n9, hV⟩ := hV
      exact ok_X7_castFount_31 hC hQ n9 a0 a1 a2 0 0 0 h2 hV
    · replace hV := hV.2 k9
      refine r_bipush (v := (-2)) hC dX7_castFount_20 (by decide) ?_
      exact r_iret hC hQ dX7_castFount_22 (Nat.le_of_ble_eq_true rfl) (Nat.le_of_ble_eq_true rfl) ⟨_, rfl, hV⟩
  · replace hV := hV.2 k9
    refine r_iconst (v := (-1)) hC dX7_castFount_8 (by decide) ?_
    exact r_iret hC hQ dX7_castFount_9 (Nat.le_of_ble_eq_true rfl) (Nat.le_of_ble_eq_true rfl) ⟨_, rfl, hV⟩
set_option maxRecDepth 100000 in
set_option maxHeartbeats 4000000 in
theorem con_X7_castFount {E : Ev} {l0 : Launch} (a0 : Nat) (a1 : Int32) (a2 : Int32) (h : Hp) (K : Int32 → Hp → Prop) (hV : V_X7_castFount a0 a1 a2 h K) : Con E l0 yX7_castFount cX7_castFount 7 (some .int) rm_X7_castFount [rv a0, .int a1, .int a2] h (KI K) := by
  refine Con.of (by decide +kernel) (cat_R (cat_I (cat_I cat_nil))) (Nat.le_of_ble_eq_true rfl) (fun X hC hQ => ?_)
  refine r_sub (lo1 := [some (rv a0), some (.int a1), some (.int a2), none, none, none, none]) (show lsub [some (rv a0), some (.int a1), some (.int a2), none, none, none, none] _ from ⟨Or.inr rfl, ⟨Or.inr rfl, ⟨Or.inr rfl, ⟨Or.inr rfl, ⟨Or.inr rfl, ⟨Or.inr rfl, ⟨Or.inr rfl, trivial⟩⟩⟩⟩⟩⟩⟩) ?_
  exact ok_X7_castFount_0 hC hQ a0 a1 a2 h hV
theorem dX7_isLetter_0 : decode cX7_isLetter 0 = .ok (.iload_n 0, 1) := by decide +kernel
theorem dX7_isLetter_1 : decode cX7_isLetter 1 = .ok (.bipush 97, 2) := by decide +kernel
theorem dX7_isLetter_3 : decode cX7_isLetter 3 = .ok (.bipush 122, 2) := by decide +kernel
theorem dX7_isLetter_5 : decode cX7_isLetter 5 = .ok (.invokestatic 56, 3) := by decide +kernel
theorem dX7_isLetter_8 : decode cX7_isLetter 8 = .ok (.ireturn, 1) := by decide +kernel
def rm_X7_isLetter : Room := { frames := 1, cells := 0, slots := 0, locals := 22 }
set_option maxRecDepth 100000 in
set_option maxHeartbeats 4000000 in
theorem ok_X7_isLetter_0 {E : Ev} {X : Xt} {l0 : Launch} {K : Int32 → Hp → Prop} (hC : Cx E X l0 RX7 cX7_isLetter 1 rm_X7_isLetter) (hQ : CQ E X "isLetter" (some .boolean) rm_X7_isLetter (KI K)) (a0 : Int32) (h : Hp) (hV : V_X7_isLetter a0 h K) : WW E X h 0 0 0 [some (.int a0)] [] := by
  unfold V_X7_isLetter at hV
  refine r_iload_n hC dX7_isLetter_0 rfl ?_
  refine r_bipush (v := 97) hC dX7_isLetter_1 (by decide) ?_
  refine r_bipush (v := 122) hC dX7_isLetter_3 (by decide) ?_
  refine r_callS (As := [.int a0, .int 97, .int 122]) hC dX7_isLetter_5 rfl cf_X7_in ml_7_56 st_X7_in rfl ⟨Nat.le_of_ble_eq_true rfl, Nat.le_of_ble_eq_true rfl, Nat.le_of_ble_eq_true rfl, Nat.le_of_ble_eq_true rfl⟩ cs0 (Nat.le_of_ble_eq_true rfl) (con_X7_in a0 97 122 h _ hV) rfl (kI (k := 0) (n := 0) (fun r1 h1 hV => ?_))
  exact r_zret hC hQ dX7_isLetter_8 (Nat.le_of_ble_eq_true rfl) (Nat.le_of_ble_eq_true rfl) hV.1 ⟨_, rfl, hV.2⟩
set_option maxRecDepth 100000 in
set_option maxHeartbeats 4000000 in
theorem con_X7_isLetter {E : Ev} {l0 : Launch} (a0 : Int32) (h : Hp) (K : Int32 → Hp → Prop) (hV : V_X7_isLetter a0 h K) : Con E l0 yX7_isLetter cX7_isLetter 1 (some .boolean) rm_X7_isLetter [.int a0] h (KI K) := by
  refine Con.of (by decide +kernel) (cat_I cat_nil) (Nat.le_of_ble_eq_true rfl) (fun X hC hQ => ?_)
  refine r_sub (lo1 := [some (.int a0)]) (show lsub [some (.int a0)] _ from ⟨Or.inr rfl, trivial⟩) ?_
  exact ok_X7_isLetter_0 hC hQ a0 h hV
