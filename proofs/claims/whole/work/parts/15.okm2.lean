theorem dX7_distribute_0 : decode cX7_distribute 0 = .ok (.aload_n 0, 1) := by decide +kernel
theorem dX7_distribute_1 : decode cX7_distribute 1 = .ok (.iload_n 1, 1) := by decide +kernel
theorem dX7_distribute_2 : decode cX7_distribute 2 = .ok (.invokevirtual 144, 3) := by decide +kernel
theorem dX7_distribute_5 : decode cX7_distribute 5 = .ok (.ifCond .eq 5, 3) := by decide +kernel
theorem dX7_distribute_8 : decode cX7_distribute 8 = .ok (.iconst (-1), 1) := by decide +kernel
theorem dX7_distribute_9 : decode cX7_distribute 9 = .ok (.ireturn, 1) := by decide +kernel
theorem dX7_distribute_10 : decode cX7_distribute 10 = .ok (.aload_n 0, 1) := by decide +kernel
theorem dX7_distribute_11 : decode cX7_distribute 11 = .ok (.iload_n 1, 1) := by decide +kernel
theorem dX7_distribute_12 : decode cX7_distribute 12 = .ok (.iconst 3, 1) := by decide +kernel
theorem dX7_distribute_13 : decode cX7_distribute 13 = .ok (.invokevirtual 60, 3) := by decide +kernel
theorem dX7_distribute_16 : decode cX7_distribute 16 = .ok (.iconst 2, 1) := by decide +kernel
theorem dX7_distribute_17 : decode cX7_distribute 17 = .ok (.if_icmp .eq 6, 3) := by decide +kernel
theorem dX7_distribute_20 : decode cX7_distribute 20 = .ok (.bipush (-4), 2) := by decide +kernel
theorem dX7_distribute_22 : decode cX7_distribute 22 = .ok (.ireturn, 1) := by decide +kernel
theorem dX7_distribute_23 : decode cX7_distribute 23 = .ok (.aload_n 0, 1) := by decide +kernel
theorem dX7_distribute_24 : decode cX7_distribute 24 = .ok (.invokevirtual 65, 3) := by decide +kernel
theorem dX7_distribute_27 : decode cX7_distribute 27 = .ok (.aload_n 0, 1) := by decide +kernel
theorem dX7_distribute_28 : decode cX7_distribute 28 = .ok (.iload_n 1, 1) := by decide +kernel
theorem dX7_distribute_29 : decode cX7_distribute 29 = .ok (.iconst 3, 1) := by decide +kernel
theorem dX7_distribute_30 : decode cX7_distribute 30 = .ok (.iconst 3, 1) := by decide +kernel
theorem dX7_distribute_31 : decode cX7_distribute 31 = .ok (.invokevirtual 141, 3) := by decide +kernel
theorem dX7_distribute_34 : decode cX7_distribute 34 = .ok (.aload_n 0, 1) := by decide +kernel
theorem dX7_distribute_35 : decode cX7_distribute 35 = .ok (.iload_n 1, 1) := by decide +kernel
theorem dX7_distribute_36 : decode cX7_distribute 36 = .ok (.bipush 8, 2) := by decide +kernel
theorem dX7_distribute_38 : decode cX7_distribute 38 = .ok (.invokevirtual 157, 3) := by decide +kernel
theorem dX7_distribute_41 : decode cX7_distribute 41 = .ok (.ireturn, 1) := by decide +kernel
def rm_X7_distribute : Room := { frames := 3, cells := 0, slots := 0, locals := 72 }
set_option maxRecDepth 100000 in
set_option maxHeartbeats 4000000 in
theorem ok_X7_distribute_0 {E : Ev} {X : Xt} {l0 : Launch} {K : Int32 → Hp → Prop} (hC : Cx E X l0 RX7 cX7_distribute 2 rm_X7_distribute) (hQ : CQ E X "distribute" (some .int) rm_X7_distribute (KI K)) (a0 : Nat) (a1 : Int32) (h : Hp) (hV : V_X7_distribute a0 a1 h K) : WW E X h 0 0 0 [some (rv a0), some (.int a1)] [] := by
  unfold V_X7_distribute at hV
  refine r_aload_n hC dX7_distribute_0 rfl ?_
  refine r_iload_n hC dX7_distribute_1 rfl ?_
  obtain ⟨k9, hV⟩ := hV
  refine r_callV (ci := 7) (As := [.int a1]) hC dX7_distribute_2 rfl cf_X7_noJob ml_7_144 im_X7_noJob sl_X7_noJob lq_7 rfl rfl k9 rfl ⟨Nat.le_of_ble_eq_true rfl, Nat.le_of_ble_eq_true rfl, Nat.le_of_ble_eq_true rfl, Nat.le_of_ble_eq_true rfl⟩ cs0 (Nat.le_of_ble_eq_true rfl) (con_X7_noJob a0 a1 h _ hV) rfl (kI (k := 0) (n := 0) (fun r1 h1 hV => ?_))
  refine r_if_eq (tgt := 10) hC dX7_distribute_5 (by decide) (fun k9 => ?_) (fun k9 => ?_)
  · replace hV := hV.1 k9
    refine r_aload_n hC dX7_distribute_10 rfl ?_
    refine r_iload_n hC dX7_distribute_11 rfl ?_
    refine r_iconst (v := 3) hC dX7_distribute_12 (by decide) ?_
    obtain ⟨k9, hV⟩ := hV
    refine r_callV (ci := 7) (As := [.int a1, .int 3]) hC dX7_distribute_13 rfl cf_X7_ofJob ml_7_60 im_X7_ofJob sl_X7_ofJob lq_7 rfl rfl k9 rfl ⟨Nat.le_of_ble_eq_true rfl, Nat.le_of_ble_eq_true rfl, Nat.le_of_ble_eq_true rfl, Nat.le_of_ble_eq_true rfl⟩ cs0 (Nat.le_of_ble_eq_true rfl) (con_X7_ofJob a0 a1 3 h1 _ hV) rfl (kI (k := 0) (n := 0) (fun r2 h2 hV => ?_))
    refine r_iconst (v := 2) hC dX7_distribute_16 (by decide) ?_
    refine r_icmp_eq (tgt := 23) hC dX7_distribute_17 (by decide) (fun k9 => ?_) (fun k9 => ?_)
    · replace hV := hV.1 k9
      refine r_aload_n hC dX7_distribute_23 rfl ?_
      obtain ⟨k9, hV⟩ := hV
      refine r_callV (ci := 7) (As := []) hC dX7_distribute_24 rfl cf_X7_record ml_7_65 im_X7_record sl_X7_record lq_7 rfl rfl k9 rfl ⟨Nat.le_of_ble_eq_true rfl, Nat.le_of_ble_eq_true rfl, Nat.le_of_ble_eq_true rfl, Nat.le_of_ble_eq_true rfl⟩ cs0 (Nat.le_of_ble_eq_true rfl) (con_X7_record a0 h2 _ hV) rfl (kV (k := 0) (n := 0) (fun h3 hV => ?_))
      refine r_aload_n hC dX7_distribute_27 rfl ?_
      refine r_iload_n hC dX7_distribute_28 rfl ?_
      refine r_iconst (v := 3) hC dX7_distribute_29 (by decide) ?_
      refine r_iconst (v := 3) hC dX7_distribute_30 (by decide) ?_
      obtain ⟨k9, hV⟩ := hV
      refine r_callV (ci := 7) (As := [.int a1, .int 3, .int 3]) hC dX7_distribute_31 rfl cf_X7_put ml_7_141 im_X7_put sl_X7_put lq_7 rfl rfl k9 rfl ⟨Nat.le_of_ble_eq_true rfl, Nat.le_of_ble_eq_true rfl, Nat.le_of_ble_eq_true rfl, Nat.le_of_ble_eq_true rfl⟩ cs0 (Nat.le_of_ble_eq_true rfl) (con_X7_put a0 a1 3 3 h3 _ hV) rfl (kV (k := 0) (n := 0) (fun h4 hV => ?_))
      refine r_aload_n hC dX7_distribute_34 rfl ?_
      refine r_iload_n hC dX7_distribute_35 rfl ?_
      refine r_bipush (v := 8) hC dX7_distribute_36 (by decide) ?_
      obtain ⟨k9, hV⟩ := hV
      refine r_callV (ci := 7) (As := [.int a1, .int 8]) hC dX7_distribute_38 rfl cf_X7_goBack ml_7_157 im_X7_goBack sl_X7_goBack lq_7 rfl rfl k9 rfl ⟨Nat.le_of_ble_eq_true rfl, Nat.le_of_ble_eq_true rfl, Nat.le_of_ble_eq_true rfl, Nat.le_of_ble_eq_true rfl⟩ cs0 (Nat.le_of_ble_eq_true rfl) (con_X7_goBack a0 a1 8 h4 _ hV) rfl (kI (k := 0) (n := 0) (fun r3 h5 hV => ?_))
      exact r_iret hC hQ dX7_distribute_41 (Nat.le_of_ble_eq_true rfl) (Nat.le_of_ble_eq_true rfl) ⟨_, rfl, hV⟩
    · replace hV := hV.2 k9
      refine r_bipush (v := (-4)) hC dX7_distribute_20 (by decide) ?_
      exact r_iret hC hQ dX7_distribute_22 (Nat.le_of_ble_eq_true rfl) (Nat.le_of_ble_eq_true rfl) ⟨_, rfl, hV⟩
  · replace hV := hV.2 k9
    refine r_iconst (v := (-1)) hC dX7_distribute_8 (by decide) ?_
    exact r_iret hC hQ dX7_distribute_9 (Nat.le_of_ble_eq_true rfl) (Nat.le_of_ble_eq_true rfl) ⟨_, rfl, hV⟩
set_option maxRecDepth 100000 in
set_option maxHeartbeats 4000000 in
theorem con_X7_distribute {E : Ev} {l0 : Launch} (a0 : Nat) (a1 : Int32) (h : Hp) (K : Int32 → Hp → Prop) (hV : V_X7_distribute a0 a1 h K) : Con E l0 yX7_distribute cX7_distribute 2 (some .int) rm_X7_distribute [rv a0, .int a1] h (KI K) := by
  refine Con.of (by decide +kernel) (cat_R (cat_I cat_nil)) (Nat.le_of_ble_eq_true rfl) (fun X hC hQ => ?_)
  refine r_sub (lo1 := [some (rv a0), some (.int a1)]) (show lsub [some (rv a0), some (.int a1)] _ from ⟨Or.inr rfl, ⟨Or.inr rfl, trivial⟩⟩) ?_
  exact ok_X7_distribute_0 hC hQ a0 a1 h hV
theorem dX7_faultOf_0 : decode cX7_faultOf 0 = .ok (.iconst 1, 1) := by decide +kernel
theorem dX7_faultOf_1 : decode cX7_faultOf 1 = .ok (.istore_n 1, 1) := by decide +kernel
theorem dX7_faultOf_2 : decode cX7_faultOf 2 = .ok (.iconst 0, 1) := by decide +kernel
theorem dX7_faultOf_3 : decode cX7_faultOf 3 = .ok (.istore_n 2, 1) := by decide +kernel
theorem dX7_faultOf_4 : decode cX7_faultOf 4 = .ok (.iload_n 2, 1) := by decide +kernel
theorem dX7_faultOf_5 : decode cX7_faultOf 5 = .ok (.aload_n 0, 1) := by decide +kernel
theorem dX7_faultOf_6 : decode cX7_faultOf 6 = .ok (.getfield 93, 3) := by decide +kernel
theorem dX7_faultOf_9 : decode cX7_faultOf 9 = .ok (.if_icmp .ge 67, 3) := by decide +kernel
theorem dX7_faultOf_12 : decode cX7_faultOf 12 = .ok (.aload_n 0, 1) := by decide +kernel
theorem dX7_faultOf_13 : decode cX7_faultOf 13 = .ok (.getfield 19, 3) := by decide +kernel
theorem dX7_faultOf_16 : decode cX7_faultOf 16 = .ok (.iload_n 2, 1) := by decide +kernel
theorem dX7_faultOf_17 : decode cX7_faultOf 17 = .ok (.iaload, 1) := by decide +kernel
theorem dX7_faultOf_18 : decode cX7_faultOf 18 = .ok (.invokestatic 96, 3) := by decide +kernel
theorem dX7_faultOf_21 : decode cX7_faultOf 21 = .ok (.ifCond .ne 31, 3) := by decide +kernel
theorem dX7_faultOf_24 : decode cX7_faultOf 24 = .ok (.iload_n 1, 1) := by decide +kernel
theorem dX7_faultOf_25 : decode cX7_faultOf 25 = .ok (.ifCond .ne 25, 3) := by decide +kernel
theorem dX7_faultOf_28 : decode cX7_faultOf 28 = .ok (.aload_n 0, 1) := by decide +kernel
theorem dX7_faultOf_29 : decode cX7_faultOf 29 = .ok (.getfield 19, 3) := by decide +kernel
theorem dX7_faultOf_32 : decode cX7_faultOf 32 = .ok (.iload_n 2, 1) := by decide +kernel
theorem dX7_faultOf_33 : decode cX7_faultOf 33 = .ok (.iaload, 1) := by decide +kernel
theorem dX7_faultOf_34 : decode cX7_faultOf 34 = .ok (.bipush 32, 2) := by decide +kernel
theorem dX7_faultOf_36 : decode cX7_faultOf 36 = .ok (.if_icmp .eq 16, 3) := by decide +kernel
theorem dX7_faultOf_39 : decode cX7_faultOf 39 = .ok (.aload_n 0, 1) := by decide +kernel
theorem dX7_faultOf_40 : decode cX7_faultOf 40 = .ok (.getfield 19, 3) := by decide +kernel
theorem dX7_faultOf_43 : decode cX7_faultOf 43 = .ok (.iload_n 2, 1) := by decide +kernel
theorem dX7_faultOf_44 : decode cX7_faultOf 44 = .ok (.iaload, 1) := by decide +kernel
theorem dX7_faultOf_45 : decode cX7_faultOf 45 = .ok (.bipush 47, 2) := by decide +kernel
theorem dX7_faultOf_47 : decode cX7_faultOf 47 = .ok (.if_icmp .eq 5, 3) := by decide +kernel
theorem dX7_faultOf_50 : decode cX7_faultOf 50 = .ok (.iload_n 2, 1) := by decide +kernel
theorem dX7_faultOf_51 : decode cX7_faultOf 51 = .ok (.ireturn, 1) := by decide +kernel
theorem dX7_faultOf_52 : decode cX7_faultOf 52 = .ok (.aload_n 0, 1) := by decide +kernel
theorem dX7_faultOf_53 : decode cX7_faultOf 53 = .ok (.getfield 19, 3) := by decide +kernel
theorem dX7_faultOf_56 : decode cX7_faultOf 56 = .ok (.iload_n 2, 1) := by decide +kernel
theorem dX7_faultOf_57 : decode cX7_faultOf 57 = .ok (.iaload, 1) := by decide +kernel
theorem dX7_faultOf_58 : decode cX7_faultOf 58 = .ok (.invokestatic 96, 3) := by decide +kernel
theorem dX7_faultOf_61 : decode cX7_faultOf 61 = .ok (.ifCond .ne 7, 3) := by decide +kernel
theorem dX7_faultOf_64 : decode cX7_faultOf 64 = .ok (.iconst 1, 1) := by decide +kernel
theorem dX7_faultOf_65 : decode cX7_faultOf 65 = .ok (.goto 4, 3) := by decide +kernel
theorem dX7_faultOf_68 : decode cX7_faultOf 68 = .ok (.iconst 0, 1) := by decide +kernel
theorem dX7_faultOf_69 : decode cX7_faultOf 69 = .ok (.istore_n 1, 1) := by decide +kernel
theorem dX7_faultOf_70 : decode cX7_faultOf 70 = .ok (.iinc 2 1, 3) := by decide +kernel
theorem dX7_faultOf_73 : decode cX7_faultOf 73 = .ok (.goto (-69), 3) := by decide +kernel
theorem dX7_faultOf_76 : decode cX7_faultOf 76 = .ok (.iload_n 1, 1) := by decide +kernel
theorem dX7_faultOf_77 : decode cX7_faultOf 77 = .ok (.ifCond .eq 10, 3) := by decide +kernel
theorem dX7_faultOf_80 : decode cX7_faultOf 80 = .ok (.aload_n 0, 1) := by decide +kernel
theorem dX7_faultOf_81 : decode cX7_faultOf 81 = .ok (.getfield 93, 3) := by decide +kernel
theorem dX7_faultOf_84 : decode cX7_faultOf 84 = .ok (.goto 5, 3) := by decide +kernel
theorem dX7_faultOf_87 : decode cX7_faultOf 87 = .ok (.bipush (-5), 2) := by decide +kernel
theorem dX7_faultOf_89 : decode cX7_faultOf 89 = .ok (.ireturn, 1) := by decide +kernel
def rm_X7_faultOf : Room := { frames := 2, cells := 0, slots := 0, locals := 42 }
set_option maxRecDepth 100000 in
set_option maxHeartbeats 4000000 in
theorem ok_X7_faultOf_50 {E : Ev} {X : Xt} {l0 : Launch} {K : Int32 → Hp → Prop} (hC : Cx E X l0 RX7 cX7_faultOf 3 rm_X7_faultOf) (hQ : CQ E X "faultOf" (some .int) rm_X7_faultOf (KI K)) (a2 : Int32) (h : Hp) (hV : V_X7_faultOf_50 K a2 h) : WW E X h 0 0 50 [none, none, some (.int a2)] [] := by
  unfold V_X7_faultOf_50 at hV
  refine r_iload_n hC dX7_faultOf_50 rfl ?_
  exact r_iret hC hQ dX7_faultOf_51 (Nat.le_of_ble_eq_true rfl) (Nat.le_of_ble_eq_true rfl) ⟨_, rfl, hV⟩
set_option maxRecDepth 100000 in
set_option maxHeartbeats 4000000 in
theorem ok_X7_faultOf_69 {E : Ev} {X : Xt} {l0 : Launch} {K : Int32 → Hp → Prop} {C4 : Nat → Int32 → Int32 → Hp → Prop} (hC : Cx E X l0 RX7 cX7_faultOf 3 rm_X7_faultOf) (hQ : CQ E X "faultOf" (some .int) rm_X7_faultOf (KI K)) (hC4 : ∀ (a0 : Nat) (a1 : Int32) (a2 : Int32) (h : Hp), C4 a0 a1 a2 h → WW E X h 0 0 4 [some (rv a0), some (.int a1), some (.int a2)] []) (a0 : Nat) (a2 : Int32) (s0 : Int32) (h : Hp) (hV : V_X7_faultOf_69 K C4 a0 a2 s0 h) : WW E X h 0 0 69 [some (rv a0), none, some (.int a2)] [.int s0] := by
  unfold V_X7_faultOf_69 at hV
  refine r_istore_n (lo1 := [some (rv a0), some (.int s0), some (.int a2)]) hC dX7_faultOf_69 (Nat.le_of_ble_eq_true rfl) rfl ?_
  refine r_iinc (v := 1) (lo1 := [some (rv a0), some (.int s0), some (.int (a2 + 1))]) hC dX7_faultOf_70 rfl (by decide) rfl ?_
  refine r_goto (tgt := 4) hC dX7_faultOf_73 (by decide) ?_
  exact hC4 a0 s0 (a2 + 1) h hV
set_option maxRecDepth 100000 in
set_option maxHeartbeats 4000000 in
theorem ok_X7_faultOf_52 {E : Ev} {X : Xt} {l0 : Launch} {K : Int32 → Hp → Prop} {C4 : Nat → Int32 → Int32 → Hp → Prop} (hC : Cx E X l0 RX7 cX7_faultOf 3 rm_X7_faultOf) (hQ : CQ E X "faultOf" (some .int) rm_X7_faultOf (KI K)) (hC4 : ∀ (a0 : Nat) (a1 : Int32) (a2 : Int32) (h : Hp), C4 a0 a1 a2 h → WW E X h 0 0 4 [some (rv a0), some (.int a1), some (.int a2)] []) (a0 : Nat) (a2 : Int32) (h : Hp) (hV : V_X7_faultOf_52 K C4 a0 a2 h) : WW E X h 0 0 52 [some (rv a0), none, some (.int a2)] [] := by
  unfold V_X7_faultOf_52 at hV
  refine r_aload_n hC dX7_faultOf_52 rfl ?_
  obtain ⟨k9, hV⟩ := hV
  refine r_getR hC dX7_faultOf_53 fl_7_19 rf_7_6 lq_7 k9 ?_
  refine r_iload_n hC dX7_faultOf_56 rfl ?_
  obtain ⟨k9, k8, hV⟩ := hV
  refine r_iald (kd := 66) hC dX7_faultOf_57 (by decide) rfl k9 k8 ?_
  refine r_callS (As := [.int (hI h (hR h a0 6) (ix a2))]) hC dX7_faultOf_58 rfl cf_X7_isLetter ml_7_96 st_X7_isLetter rfl ⟨Nat.le_of_ble_eq_true rfl, Nat.le_of_ble_eq_true rfl, Nat.le_of_ble_eq_true rfl, Nat.le_of_ble_eq_true rfl⟩ cs0 (Nat.le_of_ble_eq_true rfl) (con_X7_isLetter (hI h (hR h a0 6) (ix a2)) h _ hV) rfl (kI (k := 0) (n := 0) (fun r1 h1 hV => ?_))
  refine r_if_ne (tgt := 68) hC dX7_faultOf_61 (by decide) (fun k9 => ?_) (fun k9 => ?_)
  · replace hV := hV.1 k9
    refine r_iconst (v := 0) hC dX7_faultOf_68 (by decide) ?_
    exact ok_X7_faultOf_69 hC hQ hC4 a0 a2 0 h1 hV
  · replace hV := hV.2 k9
    refine r_iconst (v := 1) hC dX7_faultOf_64 (by decide) ?_
    refine r_goto (tgt := 69) hC dX7_faultOf_65 (by decide) ?_
    exact ok_X7_faultOf_69 hC hQ hC4 a0 a2 1 h1 hV
set_option maxRecDepth 100000 in
set_option maxHeartbeats 4000000 in
theorem ok_X7_faultOf_89 {E : Ev} {X : Xt} {l0 : Launch} {K : Int32 → Hp → Prop} (hC : Cx E X l0 RX7 cX7_faultOf 3 rm_X7_faultOf) (hQ : CQ E X "faultOf" (some .int) rm_X7_faultOf (KI K)) (s0 : Int32) (h : Hp) (hV : V_X7_faultOf_89 K s0 h) : WW E X h 0 0 89 [none, none, none] [.int s0] := by
  unfold V_X7_faultOf_89 at hV
  exact r_iret hC hQ dX7_faultOf_89 (Nat.le_of_ble_eq_true rfl) (Nat.le_of_ble_eq_true rfl) ⟨_, rfl, hV⟩
set_option maxRecDepth 100000 in
set_option maxHeartbeats 4000000 in
theorem ok_X7_faultOf_4 {E : Ev} {X : Xt} {l0 : Launch} {K : Int32 → Hp → Prop} (hC : Cx E X l0 RX7 cX7_faultOf 3 rm_X7_faultOf) (hQ : CQ E X "faultOf" (some .int) rm_X7_faultOf (KI K)) : ∀ (n : Nat) (a0 : Nat) (a1 : Int32) (a2 : Int32) (h : Hp), V_X7_faultOf_4 K n a0 a1 a2 h → WW E X h 0 0 4 [some (rv a0), some (.int a1), some (.int a2)] [] := by
  intro n
  induction n with
  | zero => intro a0 a1 a2 h hV; exact hV.elim
  | succ n ih =>
    intro a0 a1 a2 h hV
    unfold V_X7_faultOf_4 at hV
    refine r_iload_n hC dX7_faultOf_4 rfl ?_
    refine r_aload_n hC dX7_faultOf_5 rfl ?_
    obtain ⟨k9, hV⟩ := hV
    refine r_getI hC dX7_faultOf_6 fl_7_93 rf_7_5 lq_7 k9 ?_
    refine r_icmp_ge (tgt := 76) hC dX7_faultOf_9 (by decide) (fun k9 => ?_) (fun k9 => ?_)
    · replace hV := hV.1 k9
      refine r_iload_n hC dX7_faultOf_76 rfl ?_
      refine r_if_eq (tgt := 87) hC dX7_faultOf_77 (by decide) (fun k9 => ?_) (fun k9 => ?_)
      · replace hV := hV.1 k9
        refine r_bipush (v := (-5)) hC dX7_faultOf_87 (by decide) ?_
        refine r_sub (lo1 := [none, none, none]) ⟨Or.inl rfl, ⟨Or.inl rfl, ⟨Or.inl rfl, trivial⟩⟩⟩ ?_
        exact ok_X7_faultOf_89 hC hQ (-5) h hV
      · replace hV := hV.2 k9
        refine r_aload_n hC dX7_faultOf_80 rfl ?_
        obtain ⟨k9, hV⟩ := hV
        refine r_getI hC dX7_faultOf_81 fl_7_93 rf_7_5 lq_7 k9 ?_
        refine r_goto (tgt := 89) hC dX7_faultOf_84 (by decide) ?_
        refine r_sub (lo1 := [none, none, none]) ⟨Or.inl rfl, ⟨Or.inl rfl, ⟨Or.inl rfl, trivial⟩⟩⟩ ?_
        exact ok_X7_faultOf_89 hC hQ (hI h a0 5) h hV
    · replace hV := hV.2 k9
      refine r_aload_n hC dX7_faultOf_12 rfl ?_
      obtain ⟨k9, hV⟩ := hV
      refine r_getR hC dX7_faultOf_13 fl_7_19 rf_7_6 lq_7 k9 ?_
      refine r_iload_n hC dX7_faultOf_16 rfl ?_
      obtain ⟨k9, k8, hV⟩ := hV
      refine r_iald (kd := 66) hC dX7_faultOf_17 (by decide) rfl k9 k8 ?_
      refine r_callS (As := [.int (hI h (hR h a0 6) (ix a2))]) hC dX7_faultOf_18 rfl cf_X7_isLetter ml_7_96 st_X7_isLetter rfl ⟨Nat.le_of_ble_eq_true rfl, Nat.le_of_ble_eq_true rfl, Nat.le_of_ble_eq_true rfl, Nat.le_of_ble_eq_true rfl⟩ cs0 (Nat.le_of_ble_eq_true rfl) (con_X7_isLetter (hI h (hR h a0 6) (ix a2)) h _ hV) rfl (kI (k := 0) (n := 0) (fun r1 h1 hV => ?_))
      refine r_if_ne (tgt := 52) hC dX7_faultOf_21 (by decide) (fun k9 => ?_) (fun k9 => ?_)
      · replace hV := hV.1 k9
        refine r_sub (lo1 := [some (rv a0), none, some (.int a2)]) ⟨Or.inr rfl, ⟨Or.inl rfl, ⟨Or.inr rfl, trivial⟩⟩⟩ ?_
        exact ok_X7_faultOf_52 hC hQ ih a0 a2 h1 hV
      · replace hV := hV.2 k9
        refine r_iload_n hC dX7_faultOf_24 rfl ?_
        refine r_if_ne (tgt := 50) hC dX7_faultOf_25 (by decide) (fun k9 => ?_) (fun k9 => ?_)
        · replace hV := hV.1 k9
          refine r_sub (lo1 := [none, none, some (.int a2)]) ⟨Or.inl rfl, ⟨Or.inl rfl, ⟨Or.inr rfl, trivial⟩⟩⟩ ?_
          exact ok_X7_faultOf_50 hC hQ a2 h1 hV
        · replace hV := hV.2 k9
          refine r_aload_n hC dX7_faultOf_28 rfl ?_
          obtain ⟨k9, hV⟩ := hV
          refine r_getR hC dX7_faultOf_29 fl_7_19 rf_7_6 lq_7 k9 ?_
          refine r_iload_n hC dX7_faultOf_32 rfl ?_
          obtain ⟨k9, k8, hV⟩ := hV
          refine r_iald (kd := 66) hC dX7_faultOf_33 (by decide) rfl k9 k8 ?_
          refine r_bipush (v := 32) hC dX7_faultOf_34 (by decide) ?_
          refine r_icmp_eq (tgt := 52) hC dX7_faultOf_36 (by decide) (fun k9 => ?_) (fun k9 => ?_)
          · replace hV := hV.1 k9
            refine r_sub (lo1 := [some (rv a0), none, some (.int a2)]) ⟨Or.inr rfl, ⟨Or.inl rfl, ⟨Or.inr rfl, trivial⟩⟩⟩ ?_
            exact ok_X7_faultOf_52 hC hQ ih a0 a2 h1 hV
          · replace hV := hV.2 k9
            refine r_aload_n hC dX7_faultOf_39 rfl ?_
            obtain ⟨k9, hV⟩ := hV
            refine r_getR hC dX7_faultOf_40 fl_7_19 rf_7_6 lq_7 k9 ?_
            refine r_iload_n hC dX7_faultOf_43 rfl ?_
            obtain ⟨k9, k8, hV⟩ := hV
            refine r_iald (kd := 66) hC dX7_faultOf_44 (by decide) rfl k9 k8 ?_
            refine r_bipush (v := 47) hC dX7_faultOf_45 (by decide) ?_
            refine r_icmp_eq (tgt := 52) hC dX7_faultOf_47 (by decide) (fun k9 => ?_) (fun k9 => ?_)
            · replace hV := hV.1 k9
              refine r_sub (lo1 := [some (rv a0), none, some (.int a2)]) ⟨Or.inr rfl, ⟨Or.inl rfl, ⟨Or.inr rfl, trivial⟩⟩⟩ ?_
              exact ok_X7_faultOf_52 hC hQ ih a0 a2 h1 hV
            · replace hV := hV.2 k9
              refine r_sub (lo1 := [none, none, some (.int a2)]) ⟨Or.inl rfl, ⟨Or.inl rfl, ⟨Or.inr rfl, trivial⟩⟩⟩ ?_
              exact ok_X7_faultOf_50 hC hQ a2 h1 hV
set_option maxRecDepth 100000 in
set_option maxHeartbeats 4000000 in
theorem ok_X7_faultOf_0 {E : Ev} {X : Xt} {l0 : Launch} {K : Int32 → Hp → Prop} (hC : Cx E X l0 RX7 cX7_faultOf 3 rm_X7_faultOf) (hQ : CQ E X "faultOf" (some .int) rm_X7_faultOf (KI K)) (a0 : Nat) (h : Hp) (hV : V_X7_faultOf a0 h K) : WW E X h 0 0 0 [some (rv a0), none, none] [] := by
  unfold V_X7_faultOf at hV
  refine r_iconst (v := 1) hC dX7_faultOf_0 (by decide) ?_
  refine r_istore_n (lo1 := [some (rv a0), some (.int 1), none]) hC dX7_faultOf_1 (Nat.le_of_ble_eq_true rfl) rfl ?_
  refine r_iconst (v := 0) hC dX7_faultOf_2 (by decide) ?_
  refine r_istore_n (lo1 := [some (rv a0), some (.int 1), some (.int 0)]) hC dX7_faultOf_3 (Nat.le_of_ble_eq_true rfl) rfl ?_
  obtain ⟨n9, hV⟩ := hV
  exact ok_X7_faultOf_4 hC hQ n9 a0 1 0 h hV
set_option maxRecDepth 100000 in
set_option maxHeartbeats 4000000 in
theorem con_X7_faultOf {E : Ev} {l0 : Launch} (a0 : Nat) (h : Hp) (K : Int32 → Hp → Prop) (hV : V_X7_faultOf a0 h K) : Con E l0 yX7_faultOf cX7_faultOf 3 (some .int) rm_X7_faultOf [rv a0] h (KI K) := by
  refine Con.of (by decide +kernel) (cat_R cat_nil) (Nat.le_of_ble_eq_true rfl) (fun X hC hQ => ?_)
  refine r_sub (lo1 := [some (rv a0), none, none]) (show lsub [some (rv a0), none, none] _ from ⟨Or.inr rfl, ⟨Or.inr rfl, ⟨Or.inr rfl, trivial⟩⟩⟩) ?_
  exact ok_X7_faultOf_0 hC hQ a0 h hV
theorem dX7_gap_0 : decode cX7_gap 0 = .ok (.aload_n 0, 1) := by decide +kernel
theorem dX7_gap_1 : decode cX7_gap 1 = .ok (.iload_n 1, 1) := by decide +kernel
theorem dX7_gap_2 : decode cX7_gap 2 = .ok (.invokevirtual 144, 3) := by decide +kernel
theorem dX7_gap_5 : decode cX7_gap 5 = .ok (.ifCond .eq 5, 3) := by decide +kernel
theorem dX7_gap_8 : decode cX7_gap 8 = .ok (.iconst (-1), 1) := by decide +kernel
theorem dX7_gap_9 : decode cX7_gap 9 = .ok (.ireturn, 1) := by decide +kernel
theorem dX7_gap_10 : decode cX7_gap 10 = .ok (.aload_n 0, 1) := by decide +kernel
theorem dX7_gap_11 : decode cX7_gap 11 = .ok (.iload_n 1, 1) := by decide +kernel
theorem dX7_gap_12 : decode cX7_gap 12 = .ok (.invokevirtual 122, 3) := by decide +kernel
theorem dX7_gap_15 : decode cX7_gap 15 = .ok (.iload_n 2, 1) := by decide +kernel
theorem dX7_gap_16 : decode cX7_gap 16 = .ok (.iconst 0, 1) := by decide +kernel
theorem dX7_gap_17 : decode cX7_gap 17 = .ok (.aload_n 0, 1) := by decide +kernel
theorem dX7_gap_18 : decode cX7_gap 18 = .ok (.getfield 106, 3) := by decide +kernel
theorem dX7_gap_21 : decode cX7_gap 21 = .ok (.iconst 1, 1) := by decide +kernel
theorem dX7_gap_22 : decode cX7_gap 22 = .ok (.isub, 1) := by decide +kernel
theorem dX7_gap_23 : decode cX7_gap 23 = .ok (.invokestatic 56, 3) := by decide +kernel
theorem dX7_gap_26 : decode cX7_gap 26 = .ok (.ifCond .eq 26, 3) := by decide +kernel
theorem dX7_gap_29 : decode cX7_gap 29 = .ok (.iload_n 3, 1) := by decide +kernel
theorem dX7_gap_30 : decode cX7_gap 30 = .ok (.ifCond .lt 22, 3) := by decide +kernel
theorem dX7_gap_33 : decode cX7_gap 33 = .ok (.iload_n 3, 1) := by decide +kernel
theorem dX7_gap_34 : decode cX7_gap 34 = .ok (.aload_n 0, 1) := by decide +kernel
theorem dX7_gap_35 : decode cX7_gap 35 = .ok (.getfield 31, 3) := by decide +kernel
theorem dX7_gap_38 : decode cX7_gap 38 = .ok (.iload_n 2, 1) := by decide +kernel
theorem dX7_gap_39 : decode cX7_gap 39 = .ok (.iconst 1, 1) := by decide +kernel
theorem dX7_gap_40 : decode cX7_gap 40 = .ok (.iadd, 1) := by decide +kernel
theorem dX7_gap_41 : decode cX7_gap 41 = .ok (.iaload, 1) := by decide +kernel
theorem dX7_gap_42 : decode cX7_gap 42 = .ok (.aload_n 0, 1) := by decide +kernel
theorem dX7_gap_43 : decode cX7_gap 43 = .ok (.getfield 31, 3) := by decide +kernel
theorem dX7_gap_46 : decode cX7_gap 46 = .ok (.iload_n 2, 1) := by decide +kernel
theorem dX7_gap_47 : decode cX7_gap 47 = .ok (.iaload, 1) := by decide +kernel
theorem dX7_gap_48 : decode cX7_gap 48 = .ok (.isub, 1) := by decide +kernel
theorem dX7_gap_49 : decode cX7_gap 49 = .ok (.if_icmp .lt 6, 3) := by decide +kernel
theorem dX7_gap_52 : decode cX7_gap 52 = .ok (.bipush (-5), 2) := by decide +kernel
theorem dX7_gap_54 : decode cX7_gap 54 = .ok (.ireturn, 1) := by decide +kernel
theorem dX7_gap_55 : decode cX7_gap 55 = .ok (.aload_n 0, 1) := by decide +kernel
theorem dX7_gap_56 : decode cX7_gap 56 = .ok (.getfield 34, 3) := by decide +kernel
theorem dX7_gap_59 : decode cX7_gap 59 = .ok (.aload_n 0, 1) := by decide +kernel
theorem dX7_gap_60 : decode cX7_gap 60 = .ok (.getfield 31, 3) := by decide +kernel
theorem dX7_gap_63 : decode cX7_gap 63 = .ok (.iload_n 2, 1) := by decide +kernel
theorem dX7_gap_64 : decode cX7_gap 64 = .ok (.iaload, 1) := by decide +kernel
theorem dX7_gap_65 : decode cX7_gap 65 = .ok (.iload_n 3, 1) := by decide +kernel
theorem dX7_gap_66 : decode cX7_gap 66 = .ok (.iadd, 1) := by decide +kernel
theorem dX7_gap_67 : decode cX7_gap 67 = .ok (.iaload, 1) := by decide +kernel
theorem dX7_gap_68 : decode cX7_gap 68 = .ok (.ireturn, 1) := by decide +kernel
def rm_X7_gap : Room := { frames := 5, cells := 0, slots := 0, locals := 114 }
set_option maxRecDepth 100000 in
set_option maxHeartbeats 4000000 in
theorem ok_X7_gap_52 {E : Ev} {X : Xt} {l0 : Launch} {K : Int32 → Hp → Prop} (hC : Cx E X l0 RX7 cX7_gap 4 rm_X7_gap) (hQ : CQ E X "gap" (some .int) rm_X7_gap (KI K)) (h : Hp) (hV : V_X7_gap_52 K  h) : WW E X h 0 0 52 [none, none, none, none] [] := by
  unfold V_X7_gap_52 at hV
  refine r_bipush (v := (-5)) hC dX7_gap_52 (by decide) ?_
  exact r_iret hC hQ dX7_gap_54 (Nat.le_of_ble_eq_true rfl) (Nat.le_of_ble_eq_true rfl) ⟨_, rfl, hV⟩
set_option maxRecDepth 100000 in
set_option maxHeartbeats 4000000 in
theorem ok_X7_gap_0 {E : Ev} {X : Xt} {l0 : Launch} {K : Int32 → Hp → Prop} (hC : Cx E X l0 RX7 cX7_gap 4 rm_X7_gap) (hQ : CQ E X "gap" (some .int) rm_X7_gap (KI K)) (a0 : Nat) (a1 : Int32) (a2 : Int32) (a3 : Int32) (h : Hp) (hV : V_X7_gap a0 a1 a2 a3 h K) : WW E X h 0 0 0 [some (rv a0), some (.int a1), some (.int a2), some (.int a3)] [] := by
  unfold V_X7_gap at hV
  refine r_aload_n hC dX7_gap_0 rfl ?_
  refine r_iload_n hC dX7_gap_1 rfl ?_
  obtain ⟨k9, hV⟩ := hV
  refine r_callV (ci := 7) (As := [.int a1]) hC dX7_gap_2 rfl cf_X7_noJob ml_7_144 im_X7_noJob sl_X7_noJob lq_7 rfl rfl k9 rfl ⟨Nat.le_of_ble_eq_true rfl, Nat.le_of_ble_eq_true rfl, Nat.le_of_ble_eq_true rfl, Nat.le_of_ble_eq_true rfl⟩ cs0 (Nat.le_of_ble_eq_true rfl) (con_X7_noJob a0 a1 h _ hV) rfl (kI (k := 0) (n := 0) (fun r1 h1 hV => ?_))
  refine r_if_eq (tgt := 10) hC dX7_gap_5 (by decide) (fun k9 => ?_) (fun k9 => ?_)
  · replace hV := hV.1 k9
    refine r_aload_n hC dX7_gap_10 rfl ?_
    refine r_iload_n hC dX7_gap_11 rfl ?_
    obtain ⟨k9, hV⟩ := hV
    refine r_callV (ci := 7) (As := [.int a1]) hC dX7_gap_12 rfl cf_X7_layJob ml_7_122 im_X7_layJob sl_X7_layJob lq_7 rfl rfl k9 rfl ⟨Nat.le_of_ble_eq_true rfl, Nat.le_of_ble_eq_true rfl, Nat.le_of_ble_eq_true rfl, Nat.le_of_ble_eq_true rfl⟩ cs0 (Nat.le_of_ble_eq_true rfl) (con_X7_layJob a0 a1 h1 _ hV) rfl (kV (k := 0) (n := 0) (fun h2 hV => ?_))
    refine r_iload_n hC dX7_gap_15 rfl ?_
    refine r_iconst (v := 0) hC dX7_gap_16 (by decide) ?_
    refine r_aload_n hC dX7_gap_17 rfl ?_
    obtain ⟨k9, hV⟩ := hV
    refine r_getI hC dX7_gap_18 fl_7_106 rf_7_9 lq_7 k9 ?_
    refine r_iconst (v := 1) hC dX7_gap_21 (by decide) ?_
    refine r_isub hC dX7_gap_22 ?_
    refine r_callS (As := [.int a2, .int 0, .int ((hI h2 a0 9) - 1)]) hC dX7_gap_23 rfl cf_X7_in ml_7_56 st_X7_in rfl ⟨Nat.le_of_ble_eq_true rfl, Nat.le_of_ble_eq_true rfl, Nat.le_of_ble_eq_true rfl, Nat.le_of_ble_eq_true rfl⟩ cs0 (Nat.le_of_ble_eq_true rfl) (con_X7_in a2 0 ((hI h2 a0 9) - 1) h2 _ hV) rfl (kI (k := 0) (n := 0) (fun r2 h3 hV => ?_))
    refine r_if_eq (tgt := 52) hC dX7_gap_26 (by decide) (fun k9 => ?_) (fun k9 => ?_)
    · replace hV := hV.1 k9
      refine r_sub (lo1 := [none, none, none, none]) ⟨Or.inl rfl, ⟨Or.inl rfl, ⟨Or.inl rfl, ⟨Or.inl rfl, trivial⟩⟩⟩⟩ ?_
      exact ok_X7_gap_52 hC hQ  h3 hV
    · replace hV := hV.2 k9
      refine r_iload_n hC dX7_gap_29 rfl ?_
      refine r_if_lt (tgt := 52) hC dX7_gap_30 (by decide) (fun k9 => ?_) (fun k9 => ?_)
      · replace hV := hV.1 k9
        refine r_sub (lo1 := [none, none, none, none]) ⟨Or.inl rfl, ⟨Or.inl rfl, ⟨Or.inl rfl, ⟨Or.inl rfl, trivial⟩⟩⟩⟩ ?_
        exact ok_X7_gap_52 hC hQ  h3 hV
      · replace hV := hV.2 k9
        refine r_iload_n hC dX7_gap_33 rfl ?_
        refine r_aload_n hC dX7_gap_34 rfl ?_
        obtain ⟨k9, hV⟩ := hV
        refine r_getR hC dX7_gap_35 fl_7_31 rf_7_14 lq_7 k9 ?_
        refine r_iload_n hC dX7_gap_38 rfl ?_
        refine r_iconst (v := 1) hC dX7_gap_39 (by decide) ?_
        refine r_iadd hC dX7_gap_40 ?_
        obtain ⟨k9, k8, hV⟩ := hV
        refine r_iald (kd := 74) hC dX7_gap_41 (by decide) rfl k9 k8 ?_
        refine r_aload_n hC dX7_gap_42 rfl ?_
        obtain ⟨k9, hV⟩ := hV
        refine r_getR hC dX7_gap_43 fl_7_31 rf_7_14 lq_7 k9 ?_
        refine r_iload_n hC dX7_gap_46 rfl ?_
        obtain ⟨k9, k8, hV⟩ := hV
        refine r_iald (kd := 74) hC dX7_gap_47 (by decide) rfl k9 k8 ?_
        refine r_isub hC dX7_gap_48 ?_
        refine r_icmp_lt (tgt := 55) hC dX7_gap_49 (by decide) (fun k9 => ?_) (fun k9 => ?_)
        · replace hV := hV.1 k9
          refine r_aload_n hC dX7_gap_55 rfl ?_
          obtain ⟨k9, hV⟩ := hV
          refine r_getR hC dX7_gap_56 fl_7_34 rf_7_15 lq_7 k9 ?_
          refine r_aload_n hC dX7_gap_59 rfl ?_
          obtain ⟨k9, hV⟩ := hV
          refine r_getR hC dX7_gap_60 fl_7_31 rf_7_14 lq_7 k9 ?_
          refine r_iload_n hC dX7_gap_63 rfl ?_
          obtain ⟨k9, k8, hV⟩ := hV
          refine r_iald (kd := 74) hC dX7_gap_64 (by decide) rfl k9 k8 ?_
          refine r_iload_n hC dX7_gap_65 rfl ?_
          refine r_iadd hC dX7_gap_66 ?_
          obtain ⟨k9, k8, hV⟩ := hV
          refine r_iald (kd := 75) hC dX7_gap_67 (by decide) rfl k9 k8 ?_
          exact r_iret hC hQ dX7_gap_68 (Nat.le_of_ble_eq_true rfl) (Nat.le_of_ble_eq_true rfl) ⟨_, rfl, hV⟩
        · replace hV := hV.2 k9
          refine r_sub (lo1 := [none, none, none, none]) ⟨Or.inl rfl, ⟨Or.inl rfl, ⟨Or.inl rfl, ⟨Or.inl rfl, trivial⟩⟩⟩⟩ ?_
          exact ok_X7_gap_52 hC hQ  h3 hV
  · replace hV := hV.2 k9
    refine r_iconst (v := (-1)) hC dX7_gap_8 (by decide) ?_
    exact r_iret hC hQ dX7_gap_9 (Nat.le_of_ble_eq_true rfl) (Nat.le_of_ble_eq_true rfl) ⟨_, rfl, hV⟩
set_option maxRecDepth 100000 in
set_option maxHeartbeats 4000000 in
theorem con_X7_gap {E : Ev} {l0 : Launch} (a0 : Nat) (a1 : Int32) (a2 : Int32) (a3 : Int32) (h : Hp) (K : Int32 → Hp → Prop) (hV : V_X7_gap a0 a1 a2 a3 h K) : Con E l0 yX7_gap cX7_gap 4 (some .int) rm_X7_gap [rv a0, .int a1, .int a2, .int a3] h (KI K) := by
  refine Con.of (by decide +kernel) (cat_R (cat_I (cat_I (cat_I cat_nil)))) (Nat.le_of_ble_eq_true rfl) (fun X hC hQ => ?_)
  refine r_sub (lo1 := [some (rv a0), some (.int a1), some (.int a2), some (.int a3)]) (show lsub [some (rv a0), some (.int a1), some (.int a2), some (.int a3)] _ from ⟨Or.inr rfl, ⟨Or.inr rfl, ⟨Or.inr rfl, ⟨Or.inr rfl, trivial⟩⟩⟩⟩) ?_
  exact ok_X7_gap_0 hC hQ a0 a1 a2 a3 h hV
theorem dX7_init_0 : decode cX7_init 0 = .ok (.aload_n 0, 1) := by decide +kernel
theorem dX7_init_1 : decode cX7_init 1 = .ok (.invokespecial 1, 3) := by decide +kernel
theorem dX7_init_4 : decode cX7_init 4 = .ok (.aload_n 0, 1) := by decide +kernel
theorem dX7_init_5 : decode cX7_init 5 = .ok (.sipush 3475, 3) := by decide +kernel
theorem dX7_init_8 : decode cX7_init 8 = .ok (.newarray .int, 2) := by decide +kernel
theorem dX7_init_10 : decode cX7_init 10 = .ok (.putfield 7, 3) := by decide +kernel
theorem dX7_init_13 : decode cX7_init 13 = .ok (.aload_n 0, 1) := by decide +kernel
theorem dX7_init_14 : decode cX7_init 14 = .ok (.sipush 17375, 3) := by decide +kernel
theorem dX7_init_17 : decode cX7_init 17 = .ok (.newarray .int, 2) := by decide +kernel
theorem dX7_init_19 : decode cX7_init 19 = .ok (.putfield 13, 3) := by decide +kernel
theorem dX7_init_22 : decode cX7_init 22 = .ok (.aload_n 0, 1) := by decide +kernel
theorem dX7_init_23 : decode cX7_init 23 = .ok (.sipush 3475, 3) := by decide +kernel
theorem dX7_init_26 : decode cX7_init 26 = .ok (.newarray .int, 2) := by decide +kernel
theorem dX7_init_28 : decode cX7_init 28 = .ok (.putfield 16, 3) := by decide +kernel
theorem dX7_init_31 : decode cX7_init 31 = .ok (.aload_n 0, 1) := by decide +kernel
theorem dX7_init_32 : decode cX7_init 32 = .ok (.bipush 60, 2) := by decide +kernel
theorem dX7_init_34 : decode cX7_init 34 = .ok (.newarray .int, 2) := by decide +kernel
theorem dX7_init_36 : decode cX7_init 36 = .ok (.putfield 19, 3) := by decide +kernel
theorem dX7_init_39 : decode cX7_init 39 = .ok (.aload_n 0, 1) := by decide +kernel
theorem dX7_init_40 : decode cX7_init 40 = .ok (.bipush 60, 2) := by decide +kernel
theorem dX7_init_42 : decode cX7_init 42 = .ok (.newarray .int, 2) := by decide +kernel
theorem dX7_init_44 : decode cX7_init 44 = .ok (.putfield 22, 3) := by decide +kernel
theorem dX7_init_47 : decode cX7_init 47 = .ok (.aload_n 0, 1) := by decide +kernel
theorem dX7_init_48 : decode cX7_init 48 = .ok (.bipush 31, 2) := by decide +kernel
theorem dX7_init_50 : decode cX7_init 50 = .ok (.newarray .int, 2) := by decide +kernel
theorem dX7_init_52 : decode cX7_init 52 = .ok (.putfield 25, 3) := by decide +kernel
theorem dX7_init_55 : decode cX7_init 55 = .ok (.aload_n 0, 1) := by decide +kernel
theorem dX7_init_56 : decode cX7_init 56 = .ok (.bipush 31, 2) := by decide +kernel
theorem dX7_init_58 : decode cX7_init 58 = .ok (.newarray .int, 2) := by decide +kernel
theorem dX7_init_60 : decode cX7_init 60 = .ok (.putfield 28, 3) := by decide +kernel
theorem dX7_init_63 : decode cX7_init 63 = .ok (.aload_n 0, 1) := by decide +kernel
theorem dX7_init_64 : decode cX7_init 64 = .ok (.bipush 32, 2) := by decide +kernel
theorem dX7_init_66 : decode cX7_init 66 = .ok (.newarray .int, 2) := by decide +kernel
theorem dX7_init_68 : decode cX7_init 68 = .ok (.putfield 31, 3) := by decide +kernel
theorem dX7_init_71 : decode cX7_init 71 = .ok (.aload_n 0, 1) := by decide +kernel
theorem dX7_init_72 : decode cX7_init 72 = .ok (.bipush 32, 2) := by decide +kernel
theorem dX7_init_74 : decode cX7_init 74 = .ok (.newarray .int, 2) := by decide +kernel
theorem dX7_init_76 : decode cX7_init 76 = .ok (.putfield 34, 3) := by decide +kernel
theorem dX7_init_79 : decode cX7_init 79 = .ok (.aload_n 0, 1) := by decide +kernel
theorem dX7_init_80 : decode cX7_init 80 = .ok (.bipush 29, 2) := by decide +kernel
theorem dX7_init_82 : decode cX7_init 82 = .ok (.newarray .int, 2) := by decide +kernel
theorem dX7_init_84 : decode cX7_init 84 = .ok (.putfield 37, 3) := by decide +kernel
theorem dX7_init_87 : decode cX7_init 87 = .ok (.aload_n 0, 1) := by decide +kernel
theorem dX7_init_88 : decode cX7_init 88 = .ok (.bipush 29, 2) := by decide +kernel
theorem dX7_init_90 : decode cX7_init 90 = .ok (.newarray .int, 2) := by decide +kernel
theorem dX7_init_92 : decode cX7_init 92 = .ok (.putfield 40, 3) := by decide +kernel
theorem dX7_init_95 : decode cX7_init 95 = .ok (.aload_n 0, 1) := by decide +kernel
theorem dX7_init_96 : decode cX7_init 96 = .ok (.bipush 32, 2) := by decide +kernel
theorem dX7_init_98 : decode cX7_init 98 = .ok (.newarray .int, 2) := by decide +kernel
theorem dX7_init_100 : decode cX7_init 100 = .ok (.putfield 43, 3) := by decide +kernel
theorem dX7_init_103 : decode cX7_init 103 = .ok (.aload_n 0, 1) := by decide +kernel
theorem dX7_init_104 : decode cX7_init 104 = .ok (.bipush 32, 2) := by decide +kernel
theorem dX7_init_106 : decode cX7_init 106 = .ok (.newarray .int, 2) := by decide +kernel
theorem dX7_init_108 : decode cX7_init 108 = .ok (.putfield 46, 3) := by decide +kernel
theorem dX7_init_111 : decode cX7_init 111 = .ok (.aload_n 0, 1) := by decide +kernel
theorem dX7_init_112 : decode cX7_init 112 = .ok (.bipush 32, 2) := by decide +kernel
theorem dX7_init_114 : decode cX7_init 114 = .ok (.newarray .int, 2) := by decide +kernel
theorem dX7_init_116 : decode cX7_init 116 = .ok (.putfield 49, 3) := by decide +kernel
theorem dX7_init_119 : decode cX7_init 119 = .ok (.return_, 1) := by decide +kernel
def rm_X7_init : Room := { frames := 1, cells := 14, slots := 24725, locals := 26 }
set_option maxRecDepth 100000 in
set_option maxHeartbeats 4000000 in
theorem ok_X7_init_0 {E : Ev} {X : Xt} {l0 : Launch} {K : Hp → Prop} (hC : Cx E X l0 RX7 cX7_init 1 rm_X7_init) (hQ : CQ E X "<init>" none rm_X7_init (KV K)) (a0 : Nat) (h : Hp) (hV : V_X7_init a0 h K) : WW E X h 0 0 0 [some (rv a0)] [] := by
  unfold V_X7_init at hV
  refine r_aload_n hC dX7_init_0 rfl ?_
  obtain ⟨k9, hV⟩ := hV
  refine r_obj hC dX7_init_1 rfl ml_7_1 obj_i obj_c k9 cs0 ⟨Nat.le_of_ble_eq_true rfl, Nat.le_of_ble_eq_true rfl⟩ ?_
  refine r_aload_n hC dX7_init_4 rfl ?_
  refine r_sipush (v := 3475) hC dX7_init_5 (by decide) ?_
  refine r_newarr (kd := 60) (d := 0) (N := 3475) hC dX7_init_8 (by decide) rfl (by decide) rfl ka_0 (by decide) (by decide) (by decide) ⟨Nat.le_of_ble_eq_true rfl, Nat.le_of_ble_eq_true rfl⟩ (fun q1 k9 k8 => nmH (fun h1 k7 => ?_))
  replace hV := hV q1 k9 k8 h1 k7
  obtain ⟨k9, hV⟩ := hV
  refine r_putFR hC hQ dX7_init_10 fl_7_7 ft_7 rfl rfl rf_7_0 ty_7_0 lq_7 k9 (nmH (fun h2 k9 => ?_))
  replace hV := hV h2 k9
  refine r_aload_n hC dX7_init_13 rfl ?_
  refine r_sipush (v := 17375) hC dX7_init_14 (by decide) ?_
  refine r_newarr (kd := 61) (d := 0) (N := 17375) hC dX7_init_17 (by decide) rfl (by decide) rfl ka_0 (by decide) (by decide) (by decide) ⟨Nat.le_of_ble_eq_true rfl, Nat.le_of_ble_eq_true rfl⟩ (fun q2 k9 k8 => nmH (fun h3 k7 => ?_))
  replace hV := hV q2 k9 k8 h3 k7
  obtain ⟨k9, hV⟩ := hV
  refine r_putFR hC hQ dX7_init_19 fl_7_13 ft_7 rfl rfl rf_7_1 ty_7_1 lq_7 k9 (nmH (fun h4 k9 => ?_))
  replace hV := hV h4 k9
  refine r_aload_n hC dX7_init_22 rfl ?_
  refine r_sipush (v := 3475) hC dX7_init_23 (by decide) ?_
  refine r_newarr (kd := 63) (d := 0) (N := 3475) hC dX7_init_26 (by decide) rfl (by decide) rfl ka_0 (by decide) (by decide) (by decide) ⟨Nat.le_of_ble_eq_true rfl, Nat.le_of_ble_eq_true rfl⟩ (fun q3 k9 k8 => nmH (fun h5 k7 => ?_))
  replace hV := hV q3 k9 k8 h5 k7
  obtain ⟨k9, hV⟩ := hV
  refine r_putFR hC hQ dX7_init_28 fl_7_16 ft_7 rfl rfl rf_7_3 ty_7_3 lq_7 k9 (nmH (fun h6 k9 => ?_))
  replace hV := hV h6 k9
  refine r_aload_n hC dX7_init_31 rfl ?_
  refine r_bipush (v := 60) hC dX7_init_32 (by decide) ?_
  refine r_newarr (kd := 66) (d := 0) (N := 60) hC dX7_init_34 (by decide) rfl (by decide) rfl ka_0 (by decide) (by decide) (by decide) ⟨Nat.le_of_ble_eq_true rfl, Nat.le_of_ble_eq_true rfl⟩ (fun q4 k9 k8 => nmH (fun h7 k7 => ?_))
  replace hV := hV q4 k9 k8 h7 k7
  obtain ⟨k9, hV⟩ := hV
  refine r_putFR hC hQ dX7_init_36 fl_7_19 ft_7 rfl rfl rf_7_6 ty_7_6 lq_7 k9 (nmH (fun h8 k9 => ?_))
  replace hV := hV h8 k9
  refine r_aload_n hC dX7_init_39 rfl ?_
  refine r_bipush (v := 60) hC dX7_init_40 (by decide) ?_
  refine r_newarr (kd := 68) (d := 0) (N := 60) hC dX7_init_42 (by decide) rfl (by decide) rfl ka_0 (by decide) (by decide) (by decide) ⟨Nat.le_of_ble_eq_true rfl, Nat.le_of_ble_eq_true rfl⟩ (fun q5 k9 k8 => nmH (fun h9 k7 => ?_))
  replace hV := hV q5 k9 k8 h9 k7
  obtain ⟨k9, hV⟩ := hV
  refine r_putFR hC hQ dX7_init_44 fl_7_22 ft_7 rfl rfl rf_7_8 ty_7_8 lq_7 k9 (nmH (fun h10 k9 => ?_))
  replace hV := hV h10 k9
  refine r_aload_n hC dX7_init_47 rfl ?_
  refine r_bipush (v := 31) hC dX7_init_48 (by decide) ?_
  refine r_newarr (kd := 72) (d := 0) (N := 31) hC dX7_init_50 (by decide) rfl (by decide) rfl ka_0 (by decide) (by decide) (by decide) ⟨Nat.le_of_ble_eq_true rfl, Nat.le_of_ble_eq_true rfl⟩ (fun q6 k9 k8 => nmH (fun h11 k7 => ?_))
  replace hV := hV q6 k9 k8 h11 k7
  obtain ⟨k9, hV⟩ := hV
  refine r_putFR hC hQ dX7_init_52 fl_7_25 ft_7 rfl rfl rf_7_12 ty_7_12 lq_7 k9 (nmH (fun h12 k9 => ?_))
  replace hV := hV h12 k9
  refine r_aload_n hC dX7_init_55 rfl ?_
  refine r_bipush (v := 31) hC dX7_init_56 (by decide) ?_
  refine r_newarr (kd := 73) (d := 0) (N := 31) hC dX7_init_58 (by decide) rfl (by decide) rfl ka_0 (by decide) (by decide) (by decide) ⟨Nat.le_of_ble_eq_true rfl, Nat.le_of_ble_eq_true rfl⟩ (fun q7 k9 k8 => nmH (fun h13 k7 => ?_))
  replace hV := hV q7 k9 k8 h13 k7
  obtain ⟨k9, hV⟩ := hV
  refine r_putFR hC hQ dX7_init_60 fl_7_28 ft_7 rfl rfl rf_7_13 ty_7_13 lq_7 k9 (nmH (fun h14 k9 => ?_))
  replace hV := hV h14 k9
  refine r_aload_n hC dX7_init_63 rfl ?_
  refine r_bipush (v := 32) hC dX7_init_64 (by decide) ?_
  refine r_newarr (kd := 74) (d := 0) (N := 32) hC dX7_init_66 (by decide) rfl (by decide) rfl ka_0 (by decide) (by decide) (by decide) ⟨Nat.le_of_ble_eq_true rfl, Nat.le_of_ble_eq_true rfl⟩ (fun q8 k9 k8 => nmH (fun h15 k7 => ?_))
  replace hV := hV q8 k9 k8 h15 k7
  obtain ⟨k9, hV⟩ := hV
  refine r_putFR hC hQ dX7_init_68 fl_7_31 ft_7 rfl rfl rf_7_14 ty_7_14 lq_7 k9 (nmH (fun h16 k9 => ?_))
  replace hV := hV h16 k9
  refine r_aload_n hC dX7_init_71 rfl ?_
  refine r_bipush (v := 32) hC dX7_init_72 (by decide) ?_
  refine r_newarr (kd := 75) (d := 0) (N := 32) hC dX7_init_74 (by decide) rfl (by decide) rfl ka_0 (by decide) (by decide) (by decide) ⟨Nat.le_of_ble_eq_true rfl, Nat.le_of_ble_eq_true rfl⟩ (fun q9 k9 k8 => nmH (fun h17 k7 => ?_))
  replace hV := hV q9 k9 k8 h17 k7
  obtain ⟨k9, hV⟩ := hV
  refine r_putFR hC hQ dX7_init_76 fl_7_34 ft_7 rfl rfl rf_7_15 ty_7_15 lq_7 k9 (nmH (fun h18 k9 => ?_))
  replace hV := hV h18 k9
  refine r_aload_n hC dX7_init_79 rfl ?_
  refine r_bipush (v := 29) hC dX7_init_80 (by decide) ?_
  refine r_newarr (kd := 77) (d := 0) (N := 29) hC dX7_init_82 (by decide) rfl (by decide) rfl ka_0 (by decide) (by decide) (by decide) ⟨Nat.le_of_ble_eq_true rfl, Nat.le_of_ble_eq_true rfl⟩ (fun q10 k9 k8 => nmH (fun h19 k7 => ?_))
  replace hV := hV q10 k9 k8 h19 k7
  obtain ⟨k9, hV⟩ := hV
  refine r_putFR hC hQ dX7_init_84 fl_7_37 ft_7 rfl rfl rf_7_17 ty_7_17 lq_7 k9 (nmH (fun h20 k9 => ?_))
  replace hV := hV h20 k9
  refine r_aload_n hC dX7_init_87 rfl ?_
  refine r_bipush (v := 29) hC dX7_init_88 (by decide) ?_
  refine r_newarr (kd := 78) (d := 0) (N := 29) hC dX7_init_90 (by decide) rfl (by decide) rfl ka_0 (by decide) (by decide) (by decide) ⟨Nat.le_of_ble_eq_true rfl, Nat.le_of_ble_eq_true rfl⟩ (fun q11 k9 k8 => nmH (fun h21 k7 => ?_))
  replace hV := hV q11 k9 k8 h21 k7
  obtain ⟨k9, hV⟩ := hV
  refine r_putFR hC hQ dX7_init_92 fl_7_40 ft_7 rfl rfl rf_7_18 ty_7_18 lq_7 k9 (nmH (fun h22 k9 => ?_))
  replace hV := hV h22 k9
  refine r_aload_n hC dX7_init_95 rfl ?_
  refine r_bipush (v := 32) hC dX7_init_96 (by decide) ?_
  refine r_newarr (kd := 79) (d := 0) (N := 32) hC dX7_init_98 (by decide) rfl (by decide) rfl ka_0 (by decide) (by decide) (by decide) ⟨Nat.le_of_ble_eq_true rfl, Nat.le_of_ble_eq_true rfl⟩ (fun q12 k9 k8 => nmH (fun h23 k7 => ?_))
  replace hV := hV q12 k9 k8 h23 k7
  obtain ⟨k9, hV⟩ := hV
  refine r_putFR hC hQ dX7_init_100 fl_7_43 ft_7 rfl rfl rf_7_19 ty_7_19 lq_7 k9 (nmH (fun h24 k9 => ?_))
  replace hV := hV h24 k9
  refine r_aload_n hC dX7_init_103 rfl ?_
  refine r_bipush (v := 32) hC dX7_init_104 (by decide) ?_
  refine r_newarr (kd := 80) (d := 0) (N := 32) hC dX7_init_106 (by decide) rfl (by decide) rfl ka_0 (by decide) (by decide) (by decide) ⟨Nat.le_of_ble_eq_true rfl, Nat.le_of_ble_eq_true rfl⟩ (fun q13 k9 k8 => nmH (fun h25 k7 => ?_))
  replace hV := hV q13 k9 k8 h25 k7
  obtain ⟨k9, hV⟩ := hV
  refine r_putFR hC hQ dX7_init_108 fl_7_46 ft_7 rfl rfl rf_7_20 ty_7_20 lq_7 k9 (nmH (fun h26 k9 => ?_))
  replace hV := hV h26 k9
  refine r_aload_n hC dX7_init_111 rfl ?_
  refine r_bipush (v := 32) hC dX7_init_112 (by decide) ?_
  refine r_newarr (kd := 81) (d := 0) (N := 32) hC dX7_init_114 (by decide) rfl (by decide) rfl ka_0 (by decide) (by decide) (by decide) ⟨Nat.le_of_ble_eq_true rfl, Nat.le_of_ble_eq_true rfl⟩ (fun q14 k9 k8 => nmH (fun h27 k7 => ?_))
  replace hV := hV q14 k9 k8 h27 k7
  obtain ⟨k9, hV⟩ := hV
  refine r_putFR hC hQ dX7_init_116 fl_7_49 ft_7 rfl rfl rf_7_21 ty_7_21 lq_7 k9 (nmH (fun h28 k9 => ?_))
  replace hV := hV h28 k9
  exact r_vret hC hQ dX7_init_119 (Nat.le_of_ble_eq_true rfl) (Nat.le_of_ble_eq_true rfl) ⟨rfl, hV⟩
set_option maxRecDepth 100000 in
set_option maxHeartbeats 4000000 in
theorem con_X7_init {E : Ev} {l0 : Launch} (a0 : Nat) (h : Hp) (K : Hp → Prop) (hV : V_X7_init a0 h K) : Con E l0 yX7_init cX7_init 1 none rm_X7_init [rv a0] h (KV K) := by
  refine Con.of (by decide +kernel) (cat_R cat_nil) (Nat.le_of_ble_eq_true rfl) (fun X hC hQ => ?_)
  refine r_sub (lo1 := [some (rv a0)]) (show lsub [some (rv a0)] _ from ⟨Or.inr rfl, trivial⟩) ?_
  exact ok_X7_init_0 hC hQ a0 h hV
theorem dX7_job_0 : decode cX7_job 0 = .ok (.aload_n 0, 1) := by decide +kernel
theorem dX7_job_1 : decode cX7_job 1 = .ok (.iload_n 1, 1) := by decide +kernel
theorem dX7_job_2 : decode cX7_job 2 = .ok (.invokevirtual 144, 3) := by decide +kernel
theorem dX7_job_5 : decode cX7_job 5 = .ok (.ifCond .eq 5, 3) := by decide +kernel
theorem dX7_job_8 : decode cX7_job 8 = .ok (.iconst (-1), 1) := by decide +kernel
theorem dX7_job_9 : decode cX7_job 9 = .ok (.ireturn, 1) := by decide +kernel
theorem dX7_job_10 : decode cX7_job 10 = .ok (.aload_n 0, 1) := by decide +kernel
theorem dX7_job_11 : decode cX7_job 11 = .ok (.iload_n 1, 1) := by decide +kernel
theorem dX7_job_12 : decode cX7_job 12 = .ok (.invokevirtual 122, 3) := by decide +kernel
theorem dX7_job_15 : decode cX7_job 15 = .ok (.iload_n 2, 1) := by decide +kernel
theorem dX7_job_16 : decode cX7_job 16 = .ok (.tableswitch 110 0 10 #[60, 60, 60, 60, 67, 72, 77, 82, 89, 96, 103], 60) := by decide +kernel
theorem dX7_job_76 : decode cX7_job 76 = .ok (.aload_n 0, 1) := by decide +kernel
theorem dX7_job_77 : decode cX7_job 77 = .ok (.iload_n 1, 1) := by decide +kernel
theorem dX7_job_78 : decode cX7_job 78 = .ok (.iload_n 2, 1) := by decide +kernel
theorem dX7_job_79 : decode cX7_job 79 = .ok (.invokevirtual 60, 3) := by decide +kernel
theorem dX7_job_82 : decode cX7_job 82 = .ok (.ireturn, 1) := by decide +kernel
theorem dX7_job_83 : decode cX7_job 83 = .ok (.aload_n 0, 1) := by decide +kernel
theorem dX7_job_84 : decode cX7_job 84 = .ok (.getfield 106, 3) := by decide +kernel
theorem dX7_job_87 : decode cX7_job 87 = .ok (.ireturn, 1) := by decide +kernel
theorem dX7_job_88 : decode cX7_job 88 = .ok (.aload_n 0, 1) := by decide +kernel
theorem dX7_job_89 : decode cX7_job 89 = .ok (.getfield 99, 3) := by decide +kernel
theorem dX7_job_92 : decode cX7_job 92 = .ok (.ireturn, 1) := by decide +kernel
theorem dX7_job_93 : decode cX7_job 93 = .ok (.aload_n 0, 1) := by decide +kernel
theorem dX7_job_94 : decode cX7_job 94 = .ok (.getfield 109, 3) := by decide +kernel
theorem dX7_job_97 : decode cX7_job 97 = .ok (.ireturn, 1) := by decide +kernel
theorem dX7_job_98 : decode cX7_job 98 = .ok (.aload_n 0, 1) := by decide +kernel
theorem dX7_job_99 : decode cX7_job 99 = .ok (.iload_n 1, 1) := by decide +kernel
theorem dX7_job_100 : decode cX7_job 100 = .ok (.iconst 0, 1) := by decide +kernel
theorem dX7_job_101 : decode cX7_job 101 = .ok (.invokevirtual 160, 3) := by decide +kernel
theorem dX7_job_104 : decode cX7_job 104 = .ok (.ireturn, 1) := by decide +kernel
theorem dX7_job_105 : decode cX7_job 105 = .ok (.aload_n 0, 1) := by decide +kernel
theorem dX7_job_106 : decode cX7_job 106 = .ok (.iload_n 1, 1) := by decide +kernel
theorem dX7_job_107 : decode cX7_job 107 = .ok (.iconst 1, 1) := by decide +kernel
theorem dX7_job_108 : decode cX7_job 108 = .ok (.invokevirtual 160, 3) := by decide +kernel
theorem dX7_job_111 : decode cX7_job 111 = .ok (.ireturn, 1) := by decide +kernel
theorem dX7_job_112 : decode cX7_job 112 = .ok (.aload_n 0, 1) := by decide +kernel
theorem dX7_job_113 : decode cX7_job 113 = .ok (.iload_n 1, 1) := by decide +kernel
theorem dX7_job_114 : decode cX7_job 114 = .ok (.iconst 4, 1) := by decide +kernel
theorem dX7_job_115 : decode cX7_job 115 = .ok (.invokevirtual 60, 3) := by decide +kernel
theorem dX7_job_118 : decode cX7_job 118 = .ok (.ireturn, 1) := by decide +kernel
theorem dX7_job_119 : decode cX7_job 119 = .ok (.aload_n 0, 1) := by decide +kernel
theorem dX7_job_120 : decode cX7_job 120 = .ok (.iload_n 1, 1) := by decide +kernel
theorem dX7_job_121 : decode cX7_job 121 = .ok (.iconst 5, 1) := by decide +kernel
theorem dX7_job_122 : decode cX7_job 122 = .ok (.invokevirtual 60, 3) := by decide +kernel
theorem dX7_job_125 : decode cX7_job 125 = .ok (.ireturn, 1) := by decide +kernel
theorem dX7_job_126 : decode cX7_job 126 = .ok (.bipush (-2), 2) := by decide +kernel
theorem dX7_job_128 : decode cX7_job 128 = .ok (.ireturn, 1) := by decide +kernel
def rm_X7_job : Room := { frames := 5, cells := 0, slots := 0, locals := 114 }
set_option maxRecDepth 100000 in
set_option maxHeartbeats 4000000 in
theorem ok_X7_job_0 {E : Ev} {X : Xt} {l0 : Launch} {K : Int32 → Hp → Prop} (hC : Cx E X l0 RX7 cX7_job 3 rm_X7_job) (hQ : CQ E X "job" (some .int) rm_X7_job (KI K)) (a0 : Nat) (a1 : Int32) (a2 : Int32) (h : Hp) (hV : V_X7_job a0 a1 a2 h K) : WW E X h 0 0 0 [some (rv a0), some (.int a1), some (.int a2)] [] := by
  unfold V_X7_job at hV
  refine r_aload_n hC dX7_job_0 rfl ?_
  refine r_iload_n hC dX7_job_1 rfl ?_
  obtain ⟨k9, hV⟩ := hV
  refine r_callV (ci := 7) (As := [.int a1]) hC dX7_job_2 rfl cf_X7_noJob ml_7_144 im_X7_noJob sl_X7_noJob lq_7 rfl rfl k9 rfl ⟨Nat.le_of_ble_eq_true rfl, Nat.le_of_ble_eq_true rfl, Nat.le_of_ble_eq_true rfl, Nat.le_of_ble_eq_true rfl⟩ cs0 (Nat.le_of_ble_eq_true rfl) (con_X7_noJob a0 a1 h _ hV) rfl (kI (k := 0) (n := 0) (fun r1 h1 hV => ?_))
  refine r_if_eq (tgt := 10) hC dX7_job_5 (by decide) (fun k9 => ?_) (fun k9 => ?_)
  · replace hV := hV.1 k9
    refine r_aload_n hC dX7_job_10 rfl ?_
    refine r_iload_n hC dX7_job_11 rfl ?_
    obtain ⟨k9, hV⟩ := hV
    refine r_callV (ci := 7) (As := [.int a1]) hC dX7_job_12 rfl cf_X7_layJob ml_7_122 im_X7_layJob sl_X7_layJob lq_7 rfl rfl k9 rfl ⟨Nat.le_of_ble_eq_true rfl, Nat.le_of_ble_eq_true rfl, Nat.le_of_ble_eq_true rfl, Nat.le_of_ble_eq_true rfl⟩ cs0 (Nat.le_of_ble_eq_true rfl) (con_X7_layJob a0 a1 h1 _ hV) rfl (kV (k := 0) (n := 0) (fun h2 hV => ?_))
    refine r_iload_n hC dX7_job_15 rfl ?_
    rcases (show a2.toInt = 0 ∨ a2.toInt = 1 ∨ a2.toInt = 2 ∨ a2.toInt = 3 ∨ a2.toInt = 4 ∨ a2.toInt = 5 ∨ a2.toInt = 6 ∨ a2.toInt = 7 ∨ a2.toInt = 8 ∨ a2.toInt = 9 ∨ a2.toInt = 10 ∨ (a2.toInt < 0 ∨ 10 < a2.toInt) by omega) with k9 | k9 | k9 | k9 | k9 | k9 | k9 | k9 | k9 | k9 | k9 | k9
    · replace hV := hV.1 k9
      refine r_tabIn (tgt := 76) hC dX7_job_16 0 (by omega) (by decide) rfl (by decide) ?_
      refine r_aload_n hC dX7_job_76 rfl ?_
      refine r_iload_n hC dX7_job_77 rfl ?_
      refine r_iload_n hC dX7_job_78 rfl ?_
      obtain ⟨k9, hV⟩ := hV
      refine r_callV (ci := 7) (As := [.int a1, .int a2]) hC dX7_job_79 rfl cf_X7_ofJob ml_7_60 im_X7_ofJob sl_X7_ofJob lq_7 rfl rfl k9 rfl ⟨Nat.le_of_ble_eq_true rfl, Nat.le_of_ble_eq_true rfl, Nat.le_of_ble_eq_true rfl, Nat.le_of_ble_eq_true rfl⟩ cs0 (Nat.le_of_ble_eq_true rfl) (con_X7_ofJob a0 a1 a2 h2 _ hV) rfl (kI (k := 0) (n := 0) (fun r2 h3 hV => ?_))
      exact r_iret hC hQ dX7_job_82 (Nat.le_of_ble_eq_true rfl) (Nat.le_of_ble_eq_true rfl) ⟨_, rfl, hV⟩
    · replace hV := hV.2.1 k9
      refine r_tabIn (tgt := 76) hC dX7_job_16 1 (by omega) (by decide) rfl (by decide) ?_
      refine r_aload_n hC dX7_job_76 rfl ?_
      refine r_iload_n hC dX7_job_77 rfl ?_
      refine r_iload_n hC dX7_job_78 rfl ?_
      obtain ⟨k9, hV⟩ := hV
      refine r_callV (ci := 7) (As := [.int a1, .int a2]) hC dX7_job_79 rfl cf_X7_ofJob ml_7_60 im_X7_ofJob sl_X7_ofJob lq_7 rfl rfl k9 rfl ⟨Nat.le_of_ble_eq_true rfl, Nat.le_of_ble_eq_true rfl, Nat.le_of_ble_eq_true rfl, Nat.le_of_ble_eq_true rfl⟩ cs0 (Nat.le_of_ble_eq_true rfl) (con_X7_ofJob a0 a1 a2 h2 _ hV) rfl (kI (k := 0) (n := 0) (fun r2 h3 hV => ?_))
      exact r_iret hC hQ dX7_job_82 (Nat.le_of_ble_eq_true rfl) (Nat.le_of_ble_eq_true rfl) ⟨_, rfl, hV⟩
    · replace hV := hV.2.2.1 k9
      refine r_tabIn (tgt := 76) hC dX7_job_16 2 (by omega) (by decide) rfl (by decide) ?_
      refine r_aload_n hC dX7_job_76 rfl ?_
      refine r_iload_n hC dX7_job_77 rfl ?_
      refine r_iload_n hC dX7_job_78 rfl ?_
      obtain ⟨k9, hV⟩ := hV
      refine r_callV (ci := 7) (As := [.int a1, .int a2]) hC dX7_job_79 rfl cf_X7_ofJob ml_7_60 im_X7_ofJob sl_X7_ofJob lq_7 rfl rfl k9 rfl ⟨Nat.le_of_ble_eq_true rfl, Nat.le_of_ble_eq_true rfl, Nat.le_of_ble_eq_true rfl, Nat.le_of_ble_eq_true rfl⟩ cs0 (Nat.le_of_ble_eq_true rfl) (con_X7_ofJob a0 a1 a2 h2 _ hV) rfl (kI (k := 0) (n := 0) (fun r2 h3 hV => ?_))
      exact r_iret hC hQ dX7_job_82 (Nat.le_of_ble_eq_true rfl) (Nat.le_of_ble_eq_true rfl) ⟨_, rfl, hV⟩
    · replace hV := hV.2.2.2.1 k9
      refine r_tabIn (tgt := 76) hC dX7_job_16 3 (by omega) (by decide) rfl (by decide) ?_
      refine r_aload_n hC dX7_job_76 rfl ?_
      refine r_iload_n hC dX7_job_77 rfl ?_
      refine r_iload_n hC dX7_job_78 rfl ?_
      obtain ⟨k9, hV⟩ := hV
      refine r_callV (ci := 7) (As := [.int a1, .int a2]) hC dX7_job_79 rfl cf_X7_ofJob ml_7_60 im_X7_ofJob sl_X7_ofJob lq_7 rfl rfl k9 rfl ⟨Nat.le_of_ble_eq_true rfl, Nat.le_of_ble_eq_true rfl, Nat.le_of_ble_eq_true rfl, Nat.le_of_ble_eq_true rfl⟩ cs0 (Nat.le_of_ble_eq_true rfl) (con_X7_ofJob a0 a1 a2 h2 _ hV) rfl (kI (k := 0) (n := 0) (fun r2 h3 hV => ?_))
      exact r_iret hC hQ dX7_job_82 (Nat.le_of_ble_eq_true rfl) (Nat.le_of_ble_eq_true rfl) ⟨_, rfl, hV⟩
    · replace hV := hV.2.2.2.2.1 k9
      refine r_tabIn (tgt := 83) hC dX7_job_16 4 (by omega) (by decide) rfl (by decide) ?_
      refine r_aload_n hC dX7_job_83 rfl ?_
      obtain ⟨k9, hV⟩ := hV
      refine r_getI hC dX7_job_84 fl_7_106 rf_7_9 lq_7 k9 ?_
      exact r_iret hC hQ dX7_job_87 (Nat.le_of_ble_eq_true rfl) (Nat.le_of_ble_eq_true rfl) ⟨_, rfl, hV⟩
    · replace hV := hV.2.2.2.2.2.1 k9
      refine r_tabIn (tgt := 88) hC dX7_job_16 5 (by omega) (by decide) rfl (by decide) ?_
      refine r_aload_n hC dX7_job_88 rfl ?_
      obtain ⟨k9, hV⟩ := hV
      refine r_getI hC dX7_job_89 fl_7_99 rf_7_10 lq_7 k9 ?_
      exact r_iret hC hQ dX7_job_92 (Nat.le_of_ble_eq_true rfl) (Nat.le_of_ble_eq_true rfl) ⟨_, rfl, hV⟩
    · replace hV := hV.2.2.2.2.2.2.1 k9
      refine r_tabIn (tgt := 93) hC dX7_job_16 6 (by omega) (by decide) rfl (by decide) ?_
      refine r_aload_n hC dX7_job_93 rfl ?_
      obtain ⟨k9, hV⟩ := hV
      refine r_getI hC dX7_job_94 fl_7_109 rf_7_11 lq_7 k9 ?_
      exact r_iret hC hQ dX7_job_97 (Nat.le_of_ble_eq_true rfl) (Nat.le_of_ble_eq_true rfl) ⟨_, rfl, hV⟩
    · replace hV := hV.2.2.2.2.2.2.2.1 k9
      refine r_tabIn (tgt := 98) hC dX7_job_16 7 (by omega) (by decide) rfl (by decide) ?_
      refine r_aload_n hC dX7_job_98 rfl ?_
      refine r_iload_n hC dX7_job_99 rfl ?_
      refine r_iconst (v := 0) hC dX7_job_100 (by decide) ?_
      obtain ⟨k9, hV⟩ := hV
      refine r_callV (ci := 7) (As := [.int a1, .int 0]) hC dX7_job_101 rfl cf_X7_inFormeOf ml_7_160 im_X7_inFormeOf sl_X7_inFormeOf lq_7 rfl rfl k9 rfl ⟨Nat.le_of_ble_eq_true rfl, Nat.le_of_ble_eq_true rfl, Nat.le_of_ble_eq_true rfl, Nat.le_of_ble_eq_true rfl⟩ cs0 (Nat.le_of_ble_eq_true rfl) (con_X7_inFormeOf a0 a1 0 h2 _ hV) rfl (kI (k := 0) (n := 0) (fun r2 h3 hV => ?_))
      exact r_iret hC hQ dX7_job_104 (Nat.le_of_ble_eq_true rfl) (Nat.le_of_ble_eq_true rfl) ⟨_, rfl, hV⟩
    · replace hV := hV.2.2.2.2.2.2.2.2.1 k9
      refine r_tabIn (tgt := 105) hC dX7_job_16 8 (by omega) (by decide) rfl (by decide) ?_
      refine r_aload_n hC dX7_job_105 rfl ?_
      refine r_iload_n hC dX7_job_106 rfl ?_
      refine r_iconst (v := 1) hC dX7_job_107 (by decide) ?_
      obtain ⟨k9, hV⟩ := hV
      refine r_callV (ci := 7) (As := [.int a1, .int 1]) hC dX7_job_108 rfl cf_X7_inFormeOf ml_7_160 im_X7_inFormeOf sl_X7_inFormeOf lq_7 rfl rfl k9 rfl ⟨Nat.le_of_ble_eq_true rfl, Nat.le_of_ble_eq_true rfl, Nat.le_of_ble_eq_true rfl, Nat.le_of_ble_eq_true rfl⟩ cs0 (Nat.le_of_ble_eq_true rfl) (con_X7_inFormeOf a0 a1 1 h2 _ hV) rfl (kI (k := 0) (n := 0) (fun r2 h3 hV => ?_))
      exact r_iret hC hQ dX7_job_111 (Nat.le_of_ble_eq_true rfl) (Nat.le_of_ble_eq_true rfl) ⟨_, rfl, hV⟩
    · replace hV := hV.2.2.2.2.2.2.2.2.2.1 k9
      refine r_tabIn (tgt := 112) hC dX7_job_16 9 (by omega) (by decide) rfl (by decide) ?_
      refine r_aload_n hC dX7_job_112 rfl ?_
      refine r_iload_n hC dX7_job_113 rfl ?_
      refine r_iconst (v := 4) hC dX7_job_114 (by decide) ?_
      obtain ⟨k9, hV⟩ := hV
      refine r_callV (ci := 7) (As := [.int a1, .int 4]) hC dX7_job_115 rfl cf_X7_ofJob ml_7_60 im_X7_ofJob sl_X7_ofJob lq_7 rfl rfl k9 rfl ⟨Nat.le_of_ble_eq_true rfl, Nat.le_of_ble_eq_true rfl, Nat.le_of_ble_eq_true rfl, Nat.le_of_ble_eq_true rfl⟩ cs0 (Nat.le_of_ble_eq_true rfl) (con_X7_ofJob a0 a1 4 h2 _ hV) rfl (kI (k := 0) (n := 0) (fun r2 h3 hV => ?_))
      exact r_iret hC hQ dX7_job_118 (Nat.le_of_ble_eq_true rfl) (Nat.le_of_ble_eq_true rfl) ⟨_, rfl, hV⟩
    · replace hV := hV.2.2.2.2.2.2.2.2.2.2.1 k9
      refine r_tabIn (tgt := 119) hC dX7_job_16 10 (by omega) (by decide) rfl (by decide) ?_
      refine r_aload_n hC dX7_job_119 rfl ?_
      refine r_iload_n hC dX7_job_120 rfl ?_
      refine r_iconst (v := 5) hC dX7_job_121 (by decide) ?_
      obtain ⟨k9, hV⟩ := hV
      refine r_callV (ci := 7) (As := [.int a1, .int 5]) hC dX7_job_122 rfl cf_X7_ofJob ml_7_60 im_X7_ofJob sl_X7_ofJob lq_7 rfl rfl k9 rfl ⟨Nat.le_of_ble_eq_true rfl, Nat.le_of_ble_eq_true rfl, Nat.le_of_ble_eq_true rfl, Nat.le_of_ble_eq_true rfl⟩ cs0 (Nat.le_of_ble_eq_true rfl) (con_X7_ofJob a0 a1 5 h2 _ hV) rfl (kI (k := 0) (n := 0) (fun r2 h3 hV => ?_))
      exact r_iret hC hQ dX7_job_125 (Nat.le_of_ble_eq_true rfl) (Nat.le_of_ble_eq_true rfl) ⟨_, rfl, hV⟩
    · replace hV := hV.2.2.2.2.2.2.2.2.2.2.2 k9
      refine r_tabOut (tgt := 126) hC dX7_job_16 k9 (by decide) ?_
      refine r_bipush (v := (-2)) hC dX7_job_126 (by decide) ?_
      exact r_iret hC hQ dX7_job_128 (Nat.le_of_ble_eq_true rfl) (Nat.le_of_ble_eq_true rfl) ⟨_, rfl, hV⟩
  · replace hV := hV.2 k9
    refine r_iconst (v := (-1)) hC dX7_job_8 (by decide) ?_
    exact r_iret hC hQ dX7_job_9 (Nat.le_of_ble_eq_true rfl) (Nat.le_of_ble_eq_true rfl) ⟨_, rfl, hV⟩
set_option maxRecDepth 100000 in
set_option maxHeartbeats 4000000 in
theorem con_X7_job {E : Ev} {l0 : Launch} (a0 : Nat) (a1 : Int32) (a2 : Int32) (h : Hp) (K : Int32 → Hp → Prop) (hV : V_X7_job a0 a1 a2 h K) : Con E l0 yX7_job cX7_job 3 (some .int) rm_X7_job [rv a0, .int a1, .int a2] h (KI K) := by
  refine Con.of (by decide +kernel) (cat_R (cat_I (cat_I cat_nil))) (Nat.le_of_ble_eq_true rfl) (fun X hC hQ => ?_)
  refine r_sub (lo1 := [some (rv a0), some (.int a1), some (.int a2)]) (show lsub [some (rv a0), some (.int a1), some (.int a2)] _ from ⟨Or.inr rfl, ⟨Or.inr rfl, ⟨Or.inr rfl, trivial⟩⟩⟩) ?_
  exact ok_X7_job_0 hC hQ a0 a1 a2 h hV
theorem dX7_keep_0 : decode cX7_keep 0 = .ok (.iconst 0, 1) := by decide +kernel
theorem dX7_keep_1 : decode cX7_keep 1 = .ok (.istore_n 1, 1) := by decide +kernel
theorem dX7_keep_2 : decode cX7_keep 2 = .ok (.iload_n 1, 1) := by decide +kernel
theorem dX7_keep_3 : decode cX7_keep 3 = .ok (.sipush 3475, 3) := by decide +kernel
theorem dX7_keep_6 : decode cX7_keep 6 = .ok (.if_icmp .ge 21, 3) := by decide +kernel
theorem dX7_keep_9 : decode cX7_keep 9 = .ok (.aload_n 0, 1) := by decide +kernel
theorem dX7_keep_10 : decode cX7_keep 10 = .ok (.getfield 16, 3) := by decide +kernel
theorem dX7_keep_13 : decode cX7_keep 13 = .ok (.iload_n 1, 1) := by decide +kernel
theorem dX7_keep_14 : decode cX7_keep 14 = .ok (.aload_n 0, 1) := by decide +kernel
theorem dX7_keep_15 : decode cX7_keep 15 = .ok (.getfield 7, 3) := by decide +kernel
theorem dX7_keep_18 : decode cX7_keep 18 = .ok (.iload_n 1, 1) := by decide +kernel
theorem dX7_keep_19 : decode cX7_keep 19 = .ok (.iaload, 1) := by decide +kernel
theorem dX7_keep_20 : decode cX7_keep 20 = .ok (.iastore, 1) := by decide +kernel
theorem dX7_keep_21 : decode cX7_keep 21 = .ok (.iinc 1 1, 3) := by decide +kernel
theorem dX7_keep_24 : decode cX7_keep 24 = .ok (.goto (-22), 3) := by decide +kernel
theorem dX7_keep_27 : decode cX7_keep 27 = .ok (.aload_n 0, 1) := by decide +kernel
theorem dX7_keep_28 : decode cX7_keep 28 = .ok (.iconst 1, 1) := by decide +kernel
theorem dX7_keep_29 : decode cX7_keep 29 = .ok (.putfield 164, 3) := by decide +kernel
theorem dX7_keep_32 : decode cX7_keep 32 = .ok (.aload_n 0, 1) := by decide +kernel
theorem dX7_keep_33 : decode cX7_keep 33 = .ok (.getfield 7, 3) := by decide +kernel
theorem dX7_keep_36 : decode cX7_keep 36 = .ok (.iconst 1, 1) := by decide +kernel
theorem dX7_keep_37 : decode cX7_keep 37 = .ok (.iaload, 1) := by decide +kernel
theorem dX7_keep_38 : decode cX7_keep 38 = .ok (.ireturn, 1) := by decide +kernel
def rm_X7_keep : Room := { frames := 0, cells := 0, slots := 0, locals := 0 }
set_option maxRecDepth 100000 in
set_option maxHeartbeats 4000000 in
theorem ok_X7_keep_2 {E : Ev} {X : Xt} {l0 : Launch} {K : Int32 → Hp → Prop} (hC : Cx E X l0 RX7 cX7_keep 2 rm_X7_keep) (hQ : CQ E X "keep" (some .int) rm_X7_keep (KI K)) : ∀ (n : Nat) (a0 : Nat) (a1 : Int32) (h : Hp), V_X7_keep_2 K n a0 a1 h → WW E X h 0 0 2 [some (rv a0), some (.int a1)] [] := by
  intro n
  induction n with
  | zero => intro a0 a1 h hV; exact hV.elim
  | succ n ih =>
    intro a0 a1 h hV
    unfold V_X7_keep_2 at hV
    refine r_iload_n hC dX7_keep_2 rfl ?_
    refine r_sipush (v := 3475) hC dX7_keep_3 (by decide) ?_
    refine r_icmp_ge (tgt := 27) hC dX7_keep_6 (by decide) (fun k9 => ?_) (fun k9 => ?_)
    · replace hV := hV.1 k9
      refine r_aload_n hC dX7_keep_27 rfl ?_
      refine r_iconst (v := 1) hC dX7_keep_28 (by decide) ?_
      obtain ⟨k9, hV⟩ := hV
      obtain ⟨k8, hV⟩ := hV
      refine r_putZ hC dX7_keep_29 fl_7_164 ft_7 rfl rf_7_4 ty_7_4 lq_7 k9 k8 (nmH (fun h1 k9 => ?_))
      replace hV := hV h1 k9
      refine r_aload_n hC dX7_keep_32 rfl ?_
      obtain ⟨k9, hV⟩ := hV
      refine r_getR hC dX7_keep_33 fl_7_7 rf_7_0 lq_7 k9 ?_
      refine r_iconst (v := 1) hC dX7_keep_36 (by decide) ?_
      obtain ⟨k9, k8, hV⟩ := hV
      refine r_iald (kd := 60) hC dX7_keep_37 (by decide) rfl k9 k8 ?_
      exact r_iret hC hQ dX7_keep_38 (Nat.le_of_ble_eq_true rfl) (Nat.le_of_ble_eq_true rfl) ⟨_, rfl, hV⟩
    · replace hV := hV.2 k9
      refine r_aload_n hC dX7_keep_9 rfl ?_
      obtain ⟨k9, hV⟩ := hV
      refine r_getR hC dX7_keep_10 fl_7_16 rf_7_3 lq_7 k9 ?_
      refine r_iload_n hC dX7_keep_13 rfl ?_
      refine r_aload_n hC dX7_keep_14 rfl ?_
      obtain ⟨k9, hV⟩ := hV
      refine r_getR hC dX7_keep_15 fl_7_7 rf_7_0 lq_7 k9 ?_
      refine r_iload_n hC dX7_keep_18 rfl ?_
      obtain ⟨k9, k8, hV⟩ := hV
      refine r_iald (kd := 60) hC dX7_keep_19 (by decide) rfl k9 k8 ?_
      obtain ⟨k9, k8, hV⟩ := hV
      refine r_iast (kd := 63) hC dX7_keep_20 (by decide) rfl k9 k8 (nmH (fun h1 k9 => ?_))
      replace hV := hV h1 k9
      refine r_iinc (v := 1) (lo1 := [some (rv a0), some (.int (a1 + 1))]) hC dX7_keep_21 rfl (by decide) rfl ?_
      refine r_goto (tgt := 2) hC dX7_keep_24 (by decide) ?_
      exact ih a0 (a1 + 1) h1 hV
set_option maxRecDepth 100000 in
set_option maxHeartbeats 4000000 in
theorem ok_X7_keep_0 {E : Ev} {X : Xt} {l0 : Launch} {K : Int32 → Hp → Prop} (hC : Cx E X l0 RX7 cX7_keep 2 rm_X7_keep) (hQ : CQ E X "keep" (some .int) rm_X7_keep (KI K)) (a0 : Nat) (h : Hp) (hV : V_X7_keep a0 h K) : WW E X h 0 0 0 [some (rv a0), none] [] := by
  unfold V_X7_keep at hV
  refine r_iconst (v := 0) hC dX7_keep_0 (by decide) ?_
  refine r_istore_n (lo1 := [some (rv a0), some (.int 0)]) hC dX7_keep_1 (Nat.le_of_ble_eq_true rfl) rfl ?_
  obtain ⟨n9, hV⟩ := hV
  exact ok_X7_keep_2 hC hQ n9 a0 0 h hV
set_option maxRecDepth 100000 in
set_option maxHeartbeats 4000000 in
theorem con_X7_keep {E : Ev} {l0 : Launch} (a0 : Nat) (h : Hp) (K : Int32 → Hp → Prop) (hV : V_X7_keep a0 h K) : Con E l0 yX7_keep cX7_keep 2 (some .int) rm_X7_keep [rv a0] h (KI K) := by
  refine Con.of (by decide +kernel) (cat_R cat_nil) (Nat.le_of_ble_eq_true rfl) (fun X hC hQ => ?_)
  refine r_sub (lo1 := [some (rv a0), none]) (show lsub [some (rv a0), none] _ from ⟨Or.inr rfl, ⟨Or.inr rfl, trivial⟩⟩) ?_
  exact ok_X7_keep_0 hC hQ a0 h hV
theorem dX7_melt_0 : decode cX7_melt 0 = .ok (.aload_n 0, 1) := by decide +kernel
theorem dX7_melt_1 : decode cX7_melt 1 = .ok (.iload_n 1, 1) := by decide +kernel
theorem dX7_melt_2 : decode cX7_melt 2 = .ok (.invokevirtual 72, 3) := by decide +kernel
theorem dX7_melt_5 : decode cX7_melt 5 = .ok (.ifCond .ne 10, 3) := by decide +kernel
theorem dX7_melt_8 : decode cX7_melt 8 = .ok (.iload_n 2, 1) := by decide +kernel
theorem dX7_melt_9 : decode cX7_melt 9 = .ok (.invokestatic 76, 3) := by decide +kernel
theorem dX7_melt_12 : decode cX7_melt 12 = .ok (.ifCond .eq 5, 3) := by decide +kernel
theorem dX7_melt_15 : decode cX7_melt 15 = .ok (.iconst (-1), 1) := by decide +kernel
theorem dX7_melt_16 : decode cX7_melt 16 = .ok (.ireturn, 1) := by decide +kernel
theorem dX7_melt_17 : decode cX7_melt 17 = .ok (.iload_n 3, 1) := by decide +kernel
theorem dX7_melt_18 : decode cX7_melt 18 = .ok (.iconst 1, 1) := by decide +kernel
theorem dX7_melt_19 : decode cX7_melt 19 = .ok (.bipush 99, 2) := by decide +kernel
theorem dX7_melt_21 : decode cX7_melt 21 = .ok (.invokestatic 56, 3) := by decide +kernel
theorem dX7_melt_24 : decode cX7_melt 24 = .ok (.ifCond .ne 6, 3) := by decide +kernel
theorem dX7_melt_27 : decode cX7_melt 27 = .ok (.bipush (-2), 2) := by decide +kernel
theorem dX7_melt_29 : decode cX7_melt 29 = .ok (.ireturn, 1) := by decide +kernel
theorem dX7_melt_30 : decode cX7_melt 30 = .ok (.aload_n 0, 1) := by decide +kernel
theorem dX7_melt_31 : decode cX7_melt 31 = .ok (.iload_n 1, 1) := by decide +kernel
theorem dX7_melt_32 : decode cX7_melt 32 = .ok (.iload_n 2, 1) := by decide +kernel
theorem dX7_melt_33 : decode cX7_melt 33 = .ok (.invokevirtual 79, 3) := by decide +kernel
theorem dX7_melt_36 : decode cX7_melt 36 = .ok (.iload_n 3, 1) := by decide +kernel
theorem dX7_melt_37 : decode cX7_melt 37 = .ok (.if_icmp .ge 6, 3) := by decide +kernel
theorem dX7_melt_40 : decode cX7_melt 40 = .ok (.bipush (-4), 2) := by decide +kernel
theorem dX7_melt_42 : decode cX7_melt 42 = .ok (.ireturn, 1) := by decide +kernel
theorem dX7_melt_43 : decode cX7_melt 43 = .ok (.aload_n 0, 1) := by decide +kernel
theorem dX7_melt_44 : decode cX7_melt 44 = .ok (.invokevirtual 65, 3) := by decide +kernel
theorem dX7_melt_47 : decode cX7_melt 47 = .ok (.aload_n 0, 1) := by decide +kernel
theorem dX7_melt_48 : decode cX7_melt 48 = .ok (.getfield 7, 3) := by decide +kernel
theorem dX7_melt_51 : decode cX7_melt 51 = .ok (.bipush 8, 2) := by decide +kernel
theorem dX7_melt_53 : decode cX7_melt 53 = .ok (.bipush 29, 2) := by decide +kernel
theorem dX7_melt_55 : decode cX7_melt 55 = .ok (.iload_n 1, 1) := by decide +kernel
theorem dX7_melt_56 : decode cX7_melt 56 = .ok (.imul, 1) := by decide +kernel
theorem dX7_melt_57 : decode cX7_melt 57 = .ok (.iadd, 1) := by decide +kernel
theorem dX7_melt_58 : decode cX7_melt 58 = .ok (.iload_n 2, 1) := by decide +kernel
theorem dX7_melt_59 : decode cX7_melt 59 = .ok (.iadd, 1) := by decide +kernel
theorem dX7_melt_60 : decode cX7_melt 60 = .ok (.dup2, 1) := by decide +kernel
theorem dX7_melt_61 : decode cX7_melt 61 = .ok (.iaload, 1) := by decide +kernel
theorem dX7_melt_62 : decode cX7_melt 62 = .ok (.iload_n 3, 1) := by decide +kernel
theorem dX7_melt_63 : decode cX7_melt 63 = .ok (.isub, 1) := by decide +kernel
theorem dX7_melt_64 : decode cX7_melt 64 = .ok (.iastore, 1) := by decide +kernel
theorem dX7_melt_65 : decode cX7_melt 65 = .ok (.aload_n 0, 1) := by decide +kernel
theorem dX7_melt_66 : decode cX7_melt 66 = .ok (.getfield 7, 3) := by decide +kernel
theorem dX7_melt_69 : decode cX7_melt 69 = .ok (.iconst 2, 1) := by decide +kernel
theorem dX7_melt_70 : decode cX7_melt 70 = .ok (.dup2, 1) := by decide +kernel
theorem dX7_melt_71 : decode cX7_melt 71 = .ok (.iaload, 1) := by decide +kernel
theorem dX7_melt_72 : decode cX7_melt 72 = .ok (.iload_n 3, 1) := by decide +kernel
theorem dX7_melt_73 : decode cX7_melt 73 = .ok (.iload_n 2, 1) := by decide +kernel
theorem dX7_melt_74 : decode cX7_melt 74 = .ok (.invokestatic 68, 3) := by decide +kernel
theorem dX7_melt_77 : decode cX7_melt 77 = .ok (.imul, 1) := by decide +kernel
theorem dX7_melt_78 : decode cX7_melt 78 = .ok (.iadd, 1) := by decide +kernel
theorem dX7_melt_79 : decode cX7_melt 79 = .ok (.iastore, 1) := by decide +kernel
theorem dX7_melt_80 : decode cX7_melt 80 = .ok (.aload_n 0, 1) := by decide +kernel
theorem dX7_melt_81 : decode cX7_melt 81 = .ok (.getfield 7, 3) := by decide +kernel
theorem dX7_melt_84 : decode cX7_melt 84 = .ok (.bipush 7, 2) := by decide +kernel
theorem dX7_melt_86 : decode cX7_melt 86 = .ok (.dup2, 1) := by decide +kernel
theorem dX7_melt_87 : decode cX7_melt 87 = .ok (.iaload, 1) := by decide +kernel
theorem dX7_melt_88 : decode cX7_melt 88 = .ok (.iload_n 3, 1) := by decide +kernel
theorem dX7_melt_89 : decode cX7_melt 89 = .ok (.iadd, 1) := by decide +kernel
theorem dX7_melt_90 : decode cX7_melt 90 = .ok (.iastore, 1) := by decide +kernel
theorem dX7_melt_91 : decode cX7_melt 91 = .ok (.aload_n 0, 1) := by decide +kernel
theorem dX7_melt_92 : decode cX7_melt 92 = .ok (.getfield 7, 3) := by decide +kernel
theorem dX7_melt_95 : decode cX7_melt 95 = .ok (.iconst 2, 1) := by decide +kernel
theorem dX7_melt_96 : decode cX7_melt 96 = .ok (.iaload, 1) := by decide +kernel
theorem dX7_melt_97 : decode cX7_melt 97 = .ok (.ireturn, 1) := by decide +kernel
def rm_X7_melt : Room := { frames := 2, cells := 0, slots := 0, locals := 43 }
set_option maxRecDepth 100000 in
set_option maxHeartbeats 4000000 in
theorem ok_X7_melt_15 {E : Ev} {X : Xt} {l0 : Launch} {K : Int32 → Hp → Prop} (hC : Cx E X l0 RX7 cX7_melt 4 rm_X7_melt) (hQ : CQ E X "melt" (some .int) rm_X7_melt (KI K)) (h : Hp) (hV : V_X7_melt_15 K  h) : WW E X h 0 0 15 [none, none, none, none] [] := by
  unfold V_X7_melt_15 at hV
  refine r_iconst (v := (-1)) hC dX7_melt_15 (by decide) ?_
  exact r_iret hC hQ dX7_melt_16 (Nat.le_of_ble_eq_true rfl) (Nat.le_of_ble_eq_true rfl) ⟨_, rfl, hV⟩
set_option maxRecDepth 100000 in
set_option maxHeartbeats 4000000 in
theorem ok_X7_melt_0 {E : Ev} {X : Xt} {l0 : Launch} {K : Int32 → Hp → Prop} (hC : Cx E X l0 RX7 cX7_melt 4 rm_X7_melt) (hQ : CQ E X "melt" (some .int) rm_X7_melt (KI K)) (a0 : Nat) (a1 : Int32) (a2 : Int32) (a3 : Int32) (h : Hp) (hV : V_X7_melt a0 a1 a2 a3 h K) : WW E X h 0 0 0 [some (rv a0), some (.int a1), some (.int a2), some (.int a3)] [] := by
  unfold V_X7_melt at hV
  refine r_aload_n hC dX7_melt_0 rfl ?_
  refine r_iload_n hC dX7_melt_1 rfl ?_
  obtain ⟨k9, hV⟩ := hV
  refine r_callV (ci := 7) (As := [.int a1]) hC dX7_melt_2 rfl cf_X7_noCase ml_7_72 im_X7_noCase sl_X7_noCase lq_7 rfl rfl k9 rfl ⟨Nat.le_of_ble_eq_true rfl, Nat.le_of_ble_eq_true rfl, Nat.le_of_ble_eq_true rfl, Nat.le_of_ble_eq_true rfl⟩ cs0 (Nat.le_of_ble_eq_true rfl) (con_X7_noCase a0 a1 h _ hV) rfl (kI (k := 0) (n := 0) (fun r1 h1 hV => ?_))
  refine r_if_ne (tgt := 15) hC dX7_melt_5 (by decide) (fun k9 => ?_) (fun k9 => ?_)
  · replace hV := hV.1 k9
    refine r_sub (lo1 := [none, none, none, none]) ⟨Or.inl rfl, ⟨Or.inl rfl, ⟨Or.inl rfl, ⟨Or.inl rfl, trivial⟩⟩⟩⟩ ?_
    exact ok_X7_melt_15 hC hQ  h1 hV
  · replace hV := hV.2 k9
    refine r_iload_n hC dX7_melt_8 rfl ?_
    refine r_callS (As := [.int a2]) hC dX7_melt_9 rfl cf_X7_noSort ml_7_76 st_X7_noSort rfl ⟨Nat.le_of_ble_eq_true rfl, Nat.le_of_ble_eq_true rfl, Nat.le_of_ble_eq_true rfl, Nat.le_of_ble_eq_true rfl⟩ cs0 (Nat.le_of_ble_eq_true rfl) (con_X7_noSort a2 h1 _ hV) rfl (kI (k := 0) (n := 0) (fun r2 h2 hV => ?_))
    refine r_if_eq (tgt := 17) hC dX7_melt_12 (by decide) (fun k9 => ?_) (fun k9 => ?_)
    · replace hV := hV.1 k9
      refine r_iload_n hC dX7_melt_17 rfl ?_
      refine r_iconst (v := 1) hC dX7_melt_18 (by decide) ?_
      refine r_bipush (v := 99) hC dX7_melt_19 (by decide) ?_
      refine r_callS (As := [.int a3, .int 1, .int 99]) hC dX7_melt_21 rfl cf_X7_in ml_7_56 st_X7_in rfl ⟨Nat.le_of_ble_eq_true rfl, Nat.le_of_ble_eq_true rfl, Nat.le_of_ble_eq_true rfl, Nat.le_of_ble_eq_true rfl⟩ cs0 (Nat.le_of_ble_eq_true rfl) (con_X7_in a3 1 99 h2 _ hV) rfl (kI (k := 0) (n := 0) (fun r3 h3 hV => ?_))
      refine r_if_ne (tgt := 30) hC dX7_melt_24 (by decide) (fun k9 => ?_) (fun k9 => ?_)
      · replace hV := hV.1 k9
        refine r_aload_n hC dX7_melt_30 rfl ?_
        refine r_iload_n hC dX7_melt_31 rfl ?_
        refine r_iload_n hC dX7_melt_32 rfl ?_
        obtain ⟨k9, hV⟩ := hV
        refine r_callV (ci := 7) (As := [.int a1, .int a2]) hC dX7_melt_33 rfl cf_X7_has ml_7_79 im_X7_has sl_X7_has lq_7 rfl rfl k9 rfl ⟨Nat.le_of_ble_eq_true rfl, Nat.le_of_ble_eq_true rfl, Nat.le_of_ble_eq_true rfl, Nat.le_of_ble_eq_true rfl⟩ cs0 (Nat.le_of_ble_eq_true rfl) (con_X7_has a0 a1 a2 h3 _ hV) rfl (kI (k := 0) (n := 0) (fun r4 h4 hV => ?_))
        refine r_iload_n hC dX7_melt_36 rfl ?_
        refine r_icmp_ge (tgt := 43) hC dX7_melt_37 (by decide) (fun k9 => ?_) (fun k9 => ?_)
        · replace hV := hV.1 k9
          refine r_aload_n hC dX7_melt_43 rfl ?_
          obtain ⟨k9, hV⟩ := hV
          refine r_callV (ci := 7) (As := []) hC dX7_melt_44 rfl cf_X7_record ml_7_65 im_X7_record sl_X7_record lq_7 rfl rfl k9 rfl ⟨Nat.le_of_ble_eq_true rfl, Nat.le_of_ble_eq_true rfl, Nat.le_of_ble_eq_true rfl, Nat.le_of_ble_eq_true rfl⟩ cs0 (Nat.le_of_ble_eq_true rfl) (con_X7_record a0 h4 _ hV) rfl (kV (k := 0) (n := 0) (fun h5 hV => ?_))
          refine r_aload_n hC dX7_melt_47 rfl ?_
          obtain ⟨k9, hV⟩ := hV
          refine r_getR hC dX7_melt_48 fl_7_7 rf_7_0 lq_7 k9 ?_
          refine r_bipush (v := 8) hC dX7_melt_51 (by decide) ?_
          refine r_bipush (v := 29) hC dX7_melt_53 (by decide) ?_
          refine r_iload_n hC dX7_melt_55 rfl ?_
          refine r_imul hC dX7_melt_56 ?_
          refine r_iadd hC dX7_melt_57 ?_
          refine r_iload_n hC dX7_melt_58 rfl ?_
          refine r_iadd hC dX7_melt_59 ?_
          refine r_dup2 hC dX7_melt_60 rfl (rv_cat _) ?_
          obtain ⟨k9, k8, hV⟩ := hV
          refine r_iald (kd := 60) hC dX7_melt_61 (by decide) rfl k9 k8 ?_
          refine r_iload_n hC dX7_melt_62 rfl ?_
          refine r_isub hC dX7_melt_63 ?_
          obtain ⟨k9, k8, hV⟩ := hV
          refine r_iast (kd := 60) hC dX7_melt_64 (by decide) rfl k9 k8 (nmH (fun h6 k9 => ?_))
          replace hV := hV h6 k9
          refine r_aload_n hC dX7_melt_65 rfl ?_
          obtain ⟨k9, hV⟩ := hV
          refine r_getR hC dX7_melt_66 fl_7_7 rf_7_0 lq_7 k9 ?_
          refine r_iconst (v := 2) hC dX7_melt_69 (by decide) ?_
          refine r_dup2 hC dX7_melt_70 rfl (rv_cat _) ?_
          obtain ⟨k9, k8, hV⟩ := hV
          refine r_iald (kd := 60) hC dX7_melt_71 (by decide) rfl k9 k8 ?_
          refine r_iload_n hC dX7_melt_72 rfl ?_
          refine r_iload_n hC dX7_melt_73 rfl ?_
          refine r_callS (As := [.int a2]) hC dX7_melt_74 rfl cf_X7_width ml_7_68 st_X7_width rfl ⟨Nat.le_of_ble_eq_true rfl, Nat.le_of_ble_eq_true rfl, Nat.le_of_ble_eq_true rfl, Nat.le_of_ble_eq_true rfl⟩ (csI (csI (csI (csR cs0)))) (Nat.le_of_ble_eq_true rfl) (con_X7_width a2 h6 _ hV) rfl (kI (k := 0) (n := 0) (fun r5 h7 hV => ?_))
          refine r_imul hC dX7_melt_77 ?_
          refine r_iadd hC dX7_melt_78 ?_
          obtain ⟨k9, k8, hV⟩ := hV
          refine r_iast (kd := 60) hC dX7_melt_79 (by decide) rfl k9 k8 (nmH (fun h8 k9 => ?_))
          replace hV := hV h8 k9
          refine r_aload_n hC dX7_melt_80 rfl ?_
          obtain ⟨k9, hV⟩ := hV
          refine r_getR hC dX7_melt_81 fl_7_7 rf_7_0 lq_7 k9 ?_
          refine r_bipush (v := 7) hC dX7_melt_84 (by decide) ?_
          refine r_dup2 hC dX7_melt_86 rfl (rv_cat _) ?_
          obtain ⟨k9, k8, hV⟩ := hV
          refine r_iald (kd := 60) hC dX7_melt_87 (by decide) rfl k9 k8 ?_
          refine r_iload_n hC dX7_melt_88 rfl ?_
          refine r_iadd hC dX7_melt_89 ?_
          obtain ⟨k9, k8, hV⟩ := hV
          refine r_iast (kd := 60) hC dX7_melt_90 (by decide) rfl k9 k8 (nmH (fun h9 k9 => ?_))
          replace hV := hV h9 k9
          refine r_aload_n hC dX7_melt_91 rfl ?_
          obtain ⟨k9, hV⟩ := hV
          refine r_getR hC dX7_melt_92 fl_7_7 rf_7_0 lq_7 k9 ?_
          refine r_iconst (v := 2) hC dX7_melt_95 (by decide) ?_
          obtain ⟨k9, k8, hV⟩ := hV
          refine r_iald (kd := 60) hC dX7_melt_96 (by decide) rfl k9 k8 ?_
          exact r_iret hC hQ dX7_melt_97 (Nat.le_of_ble_eq_true rfl) (Nat.le_of_ble_eq_true rfl) ⟨_, rfl, hV⟩
        · replace hV := hV.2 k9
          refine r_bipush (v := (-4)) hC dX7_melt_40 (by decide) ?_
          exact r_iret hC hQ dX7_melt_42 (Nat.le_of_ble_eq_true rfl) (Nat.le_of_ble_eq_true rfl) ⟨_, rfl, hV⟩
      · replace hV := hV.2 k9
        refine r_bipush (v := (-2)) hC dX7_melt_27 (by decide) ?_
        exact r_iret hC hQ dX7_melt_29 (Nat.le_of_ble_eq_true rfl) (Nat.le_of_ble_eq_true rfl) ⟨_, rfl, hV⟩
    · replace hV := hV.2 k9
      refine r_sub (lo1 := [none, none, none, none]) ⟨Or.inl rfl, ⟨Or.inl rfl, ⟨Or.inl rfl, ⟨Or.inl rfl, trivial⟩⟩⟩⟩ ?_
      exact ok_X7_melt_15 hC hQ  h2 hV
set_option maxRecDepth 100000 in
set_option maxHeartbeats 4000000 in
theorem con_X7_melt {E : Ev} {l0 : Launch} (a0 : Nat) (a1 : Int32) (a2 : Int32) (a3 : Int32) (h : Hp) (K : Int32 → Hp → Prop) (hV : V_X7_melt a0 a1 a2 a3 h K) : Con E l0 yX7_melt cX7_melt 4 (some .int) rm_X7_melt [rv a0, .int a1, .int a2, .int a3] h (KI K) := by
  refine Con.of (by decide +kernel) (cat_R (cat_I (cat_I (cat_I cat_nil)))) (Nat.le_of_ble_eq_true rfl) (fun X hC hQ => ?_)
  refine r_sub (lo1 := [some (rv a0), some (.int a1), some (.int a2), some (.int a3)]) (show lsub [some (rv a0), some (.int a1), some (.int a2), some (.int a3)] _ from ⟨Or.inr rfl, ⟨Or.inr rfl, ⟨Or.inr rfl, ⟨Or.inr rfl, trivial⟩⟩⟩⟩) ?_
  exact ok_X7_melt_0 hC hQ a0 a1 a2 a3 h hV
theorem dX7_meltBox_0 : decode cX7_meltBox 0 = .ok (.aload_n 0, 1) := by decide +kernel
theorem dX7_meltBox_1 : decode cX7_meltBox 1 = .ok (.invokevirtual 86, 3) := by decide +kernel
theorem dX7_meltBox_4 : decode cX7_meltBox 4 = .ok (.istore_n 1, 1) := by decide +kernel
theorem dX7_meltBox_5 : decode cX7_meltBox 5 = .ok (.iload_n 1, 1) := by decide +kernel
theorem dX7_meltBox_6 : decode cX7_meltBox 6 = .ok (.ifCond .ne 6, 3) := by decide +kernel
theorem dX7_meltBox_9 : decode cX7_meltBox 9 = .ok (.bipush (-5), 2) := by decide +kernel
theorem dX7_meltBox_11 : decode cX7_meltBox 11 = .ok (.ireturn, 1) := by decide +kernel
theorem dX7_meltBox_12 : decode cX7_meltBox 12 = .ok (.aload_n 0, 1) := by decide +kernel
theorem dX7_meltBox_13 : decode cX7_meltBox 13 = .ok (.invokevirtual 65, 3) := by decide +kernel
theorem dX7_meltBox_16 : decode cX7_meltBox 16 = .ok (.aload_n 0, 1) := by decide +kernel
theorem dX7_meltBox_17 : decode cX7_meltBox 17 = .ok (.invokevirtual 90, 3) := by decide +kernel
theorem dX7_meltBox_20 : decode cX7_meltBox 20 = .ok (.istore_n 2, 1) := by decide +kernel
theorem dX7_meltBox_21 : decode cX7_meltBox 21 = .ok (.iload_n 2, 1) := by decide +kernel
theorem dX7_meltBox_22 : decode cX7_meltBox 22 = .ok (.iload_n 2, 1) := by decide +kernel
theorem dX7_meltBox_23 : decode cX7_meltBox 23 = .ok (.bipush 50, 2) := by decide +kernel
theorem dX7_meltBox_25 : decode cX7_meltBox 25 = .ok (.idiv, 1) := by decide +kernel
theorem dX7_meltBox_26 : decode cX7_meltBox 26 = .ok (.isub, 1) := by decide +kernel
theorem dX7_meltBox_27 : decode cX7_meltBox 27 = .ok (.istore_n 3, 1) := by decide +kernel
theorem dX7_meltBox_28 : decode cX7_meltBox 28 = .ok (.aload_n 0, 1) := by decide +kernel
theorem dX7_meltBox_29 : decode cX7_meltBox 29 = .ok (.getfield 7, 3) := by decide +kernel
theorem dX7_meltBox_32 : decode cX7_meltBox 32 = .ok (.iconst 5, 1) := by decide +kernel
theorem dX7_meltBox_33 : decode cX7_meltBox 33 = .ok (.dup2, 1) := by decide +kernel
theorem dX7_meltBox_34 : decode cX7_meltBox 34 = .ok (.iaload, 1) := by decide +kernel
theorem dX7_meltBox_35 : decode cX7_meltBox 35 = .ok (.iload_n 2, 1) := by decide +kernel
theorem dX7_meltBox_36 : decode cX7_meltBox 36 = .ok (.bipush 50, 2) := by decide +kernel
theorem dX7_meltBox_38 : decode cX7_meltBox 38 = .ok (.idiv, 1) := by decide +kernel
theorem dX7_meltBox_39 : decode cX7_meltBox 39 = .ok (.iadd, 1) := by decide +kernel
theorem dX7_meltBox_40 : decode cX7_meltBox 40 = .ok (.iastore, 1) := by decide +kernel
theorem dX7_meltBox_41 : decode cX7_meltBox 41 = .ok (.aload_n 0, 1) := by decide +kernel
theorem dX7_meltBox_42 : decode cX7_meltBox 42 = .ok (.getfield 7, 3) := by decide +kernel
theorem dX7_meltBox_45 : decode cX7_meltBox 45 = .ok (.iconst 2, 1) := by decide +kernel
theorem dX7_meltBox_46 : decode cX7_meltBox 46 = .ok (.dup2, 1) := by decide +kernel
theorem dX7_meltBox_47 : decode cX7_meltBox 47 = .ok (.iaload, 1) := by decide +kernel
theorem dX7_meltBox_48 : decode cX7_meltBox 48 = .ok (.iload_n 3, 1) := by decide +kernel
theorem dX7_meltBox_49 : decode cX7_meltBox 49 = .ok (.iadd, 1) := by decide +kernel
theorem dX7_meltBox_50 : decode cX7_meltBox 50 = .ok (.iastore, 1) := by decide +kernel
theorem dX7_meltBox_51 : decode cX7_meltBox 51 = .ok (.aload_n 0, 1) := by decide +kernel
theorem dX7_meltBox_52 : decode cX7_meltBox 52 = .ok (.getfield 7, 3) := by decide +kernel
theorem dX7_meltBox_55 : decode cX7_meltBox 55 = .ok (.bipush 7, 2) := by decide +kernel
theorem dX7_meltBox_57 : decode cX7_meltBox 57 = .ok (.dup2, 1) := by decide +kernel
theorem dX7_meltBox_58 : decode cX7_meltBox 58 = .ok (.iaload, 1) := by decide +kernel
theorem dX7_meltBox_59 : decode cX7_meltBox 59 = .ok (.iload_n 1, 1) := by decide +kernel
theorem dX7_meltBox_60 : decode cX7_meltBox 60 = .ok (.iadd, 1) := by decide +kernel
theorem dX7_meltBox_61 : decode cX7_meltBox 61 = .ok (.iastore, 1) := by decide +kernel
theorem dX7_meltBox_62 : decode cX7_meltBox 62 = .ok (.iconst 0, 1) := by decide +kernel
theorem dX7_meltBox_63 : decode cX7_meltBox 63 = .ok (.istore 4, 2) := by decide +kernel
theorem dX7_meltBox_65 : decode cX7_meltBox 65 = .ok (.iload 4, 2) := by decide +kernel
theorem dX7_meltBox_67 : decode cX7_meltBox 67 = .ok (.bipush 29, 2) := by decide +kernel
theorem dX7_meltBox_69 : decode cX7_meltBox 69 = .ok (.if_icmp .ge 21, 3) := by decide +kernel
theorem dX7_meltBox_72 : decode cX7_meltBox 72 = .ok (.aload_n 0, 1) := by decide +kernel
theorem dX7_meltBox_73 : decode cX7_meltBox 73 = .ok (.getfield 7, 3) := by decide +kernel
theorem dX7_meltBox_76 : decode cX7_meltBox 76 = .ok (.sipush 182, 3) := by decide +kernel
theorem dX7_meltBox_79 : decode cX7_meltBox 79 = .ok (.iload 4, 2) := by decide +kernel
theorem dX7_meltBox_81 : decode cX7_meltBox 81 = .ok (.iadd, 1) := by decide +kernel
theorem dX7_meltBox_82 : decode cX7_meltBox 82 = .ok (.iconst 0, 1) := by decide +kernel
theorem dX7_meltBox_83 : decode cX7_meltBox 83 = .ok (.iastore, 1) := by decide +kernel
theorem dX7_meltBox_84 : decode cX7_meltBox 84 = .ok (.iinc 4 1, 3) := by decide +kernel
theorem dX7_meltBox_87 : decode cX7_meltBox 87 = .ok (.goto (-22), 3) := by decide +kernel
theorem dX7_meltBox_90 : decode cX7_meltBox 90 = .ok (.iload_n 3, 1) := by decide +kernel
theorem dX7_meltBox_91 : decode cX7_meltBox 91 = .ok (.ireturn, 1) := by decide +kernel
def rm_X7_meltBox : Room := { frames := 2, cells := 0, slots := 0, locals := 42 }
set_option maxRecDepth 100000 in
set_option maxHeartbeats 4000000 in
theorem ok_X7_meltBox_65 {E : Ev} {X : Xt} {l0 : Launch} {K : Int32 → Hp → Prop} (hC : Cx E X l0 RX7 cX7_meltBox 5 rm_X7_meltBox) (hQ : CQ E X "meltBox" (some .int) rm_X7_meltBox (KI K)) : ∀ (n : Nat) (a0 : Nat) (a3 : Int32) (a4 : Int32) (h : Hp), V_X7_meltBox_65 K n a0 a3 a4 h → WW E X h 0 0 65 [some (rv a0), none, none, some (.int a3), some (.int a4)] [] := by
  intro n
  induction n with
  | zero => intro a0 a3 a4 h hV; exact hV.elim
  | succ n ih =>
    intro a0 a3 a4 h hV
    unfold V_X7_meltBox_65 at hV
    refine r_iload hC dX7_meltBox_65 rfl ?_
    refine r_bipush (v := 29) hC dX7_meltBox_67 (by decide) ?_
    refine r_icmp_ge (tgt := 90) hC dX7_meltBox_69 (by decide) (fun k9 => ?_) (fun k9 => ?_)
    · replace hV := hV.1 k9
      refine r_iload_n hC dX7_meltBox_90 rfl ?_
      exact r_iret hC hQ dX7_meltBox_91 (Nat.le_of_ble_eq_true rfl) (Nat.le_of_ble_eq_true rfl) ⟨_, rfl, hV⟩
    · replace hV := hV.2 k9
      refine r_aload_n hC dX7_meltBox_72 rfl ?_
      obtain ⟨k9, hV⟩ := hV
      refine r_getR hC dX7_meltBox_73 fl_7_7 rf_7_0 lq_7 k9 ?_
      refine r_sipush (v := 182) hC dX7_meltBox_76 (by decide) ?_
      refine r_iload hC dX7_meltBox_79 rfl ?_
      refine r_iadd hC dX7_meltBox_81 ?_
      refine r_iconst (v := 0) hC dX7_meltBox_82 (by decide) ?_
      obtain ⟨k9, k8, hV⟩ := hV
      refine r_iast (kd := 60) hC dX7_meltBox_83 (by decide) rfl k9 k8 (nmH (fun h1 k9 => ?_))
      replace hV := hV h1 k9
      refine r_iinc (v := 1) (lo1 := [some (rv a0), none, none, some (.int a3), some (.int (a4 + 1))]) hC dX7_meltBox_84 rfl (by decide) rfl ?_
      refine r_goto (tgt := 65) hC dX7_meltBox_87 (by decide) ?_
      exact ih a0 a3 (a4 + 1) h1 hV
set_option maxRecDepth 100000 in
set_option maxHeartbeats 4000000 in
theorem ok_X7_meltBox_0 {E : Ev} {X : Xt} {l0 : Launch} {K : Int32 → Hp → Prop} (hC : Cx E X l0 RX7 cX7_meltBox 5 rm_X7_meltBox) (hQ : CQ E X "meltBox" (some .int) rm_X7_meltBox (KI K)) (a0 : Nat) (h : Hp) (hV : V_X7_meltBox a0 h K) : WW E X h 0 0 0 [some (rv a0), none, none, none, none] [] := by
  unfold V_X7_meltBox at hV
  refine r_aload_n hC dX7_meltBox_0 rfl ?_
  obtain ⟨k9, hV⟩ := hV
  refine r_callV (ci := 7) (As := []) hC dX7_meltBox_1 rfl cf_X7_inBox ml_7_86 im_X7_inBox sl_X7_inBox lq_7 rfl rfl k9 rfl ⟨Nat.le_of_ble_eq_true rfl, Nat.le_of_ble_eq_true rfl, Nat.le_of_ble_eq_true rfl, Nat.le_of_ble_eq_true rfl⟩ cs0 (Nat.le_of_ble_eq_true rfl) (con_X7_inBox a0 h _ hV) rfl (kI (k := 0) (n := 0) (fun r1 h1 hV => ?_))
  refine r_istore_n (lo1 := [some (rv a0), some (.int r1), none, none, none]) hC dX7_meltBox_4 (Nat.le_of_ble_eq_true rfl) rfl ?_
  refine r_iload_n hC dX7_meltBox_5 rfl ?_
  refine r_if_ne (tgt := 12) hC dX7_meltBox_6 (by decide) (fun k9 => ?_) (fun k9 => ?_)
  · replace hV := hV.1 k9
    refine r_aload_n hC dX7_meltBox_12 rfl ?_
    obtain ⟨k9, hV⟩ := hV
    refine r_callV (ci := 7) (As := []) hC dX7_meltBox_13 rfl cf_X7_record ml_7_65 im_X7_record sl_X7_record lq_7 rfl rfl k9 rfl ⟨Nat.le_of_ble_eq_true rfl, Nat.le_of_ble_eq_true rfl, Nat.le_of_ble_eq_true rfl, Nat.le_of_ble_eq_true rfl⟩ cs0 (Nat.le_of_ble_eq_true rfl) (con_X7_record a0 h1 _ hV) rfl (kV (k := 0) (n := 0) (fun h2 hV => ?_))
    refine r_aload_n hC dX7_meltBox_16 rfl ?_
    obtain ⟨k9, hV⟩ := hV
    refine r_callV (ci := 7) (As := []) hC dX7_meltBox_17 rfl cf_X7_boxMetal ml_7_90 im_X7_boxMetal sl_X7_boxMetal lq_7 rfl rfl k9 rfl ⟨Nat.le_of_ble_eq_true rfl, Nat.le_of_ble_eq_true rfl, Nat.le_of_ble_eq_true rfl, Nat.le_of_ble_eq_true rfl⟩ cs0 (Nat.le_of_ble_eq_true rfl) (con_X7_boxMetal a0 h2 _ hV) rfl (kI (k := 0) (n := 0) (fun r2 h3 hV => ?_))
    refine r_istore_n (lo1 := [some (rv a0), some (.int r1), some (.int r2), none, none]) hC dX7_meltBox_20 (Nat.le_of_ble_eq_true rfl) rfl ?_
    refine r_iload_n hC dX7_meltBox_21 rfl ?_
    refine r_iload_n hC dX7_meltBox_22 rfl ?_
    refine r_bipush (v := 50) hC dX7_meltBox_23 (by decide) ?_
    refine r_idiv hC dX7_meltBox_25 (by decide) ?_
    refine r_isub hC dX7_meltBox_26 ?_
    refine r_istore_n (lo1 := [some (rv a0), some (.int r1), some (.int r2), some (.int (r2 - (r2 / 50))), none]) hC dX7_meltBox_27 (Nat.le_of_ble_eq_true rfl) rfl ?_
    refine r_aload_n hC dX7_meltBox_28 rfl ?_
    obtain ⟨k9, hV⟩ := hV
    refine r_getR hC dX7_meltBox_29 fl_7_7 rf_7_0 lq_7 k9 ?_
    refine r_iconst (v := 5) hC dX7_meltBox_32 (by decide) ?_
    refine r_dup2 hC dX7_meltBox_33 rfl (rv_cat _) ?_
    obtain ⟨k9, k8, hV⟩ := hV
    refine r_iald (kd := 60) hC dX7_meltBox_34 (by decide) rfl k9 k8 ?_
    refine r_iload_n hC dX7_meltBox_35 rfl ?_
    refine r_bipush (v := 50) hC dX7_meltBox_36 (by decide) ?_
    refine r_idiv hC dX7_meltBox_38 (by decide) ?_
    refine r_iadd hC dX7_meltBox_39 ?_
    obtain ⟨k9, k8, hV⟩ := hV
    refine r_iast (kd := 60) hC dX7_meltBox_40 (by decide) rfl k9 k8 (nmH (fun h4 k9 => ?_))
    replace hV := hV h4 k9
    refine r_aload_n hC dX7_meltBox_41 rfl ?_
    obtain ⟨k9, hV⟩ := hV
    refine r_getR hC dX7_meltBox_42 fl_7_7 rf_7_0 lq_7 k9 ?_
    refine r_iconst (v := 2) hC dX7_meltBox_45 (by decide) ?_
    refine r_dup2 hC dX7_meltBox_46 rfl (rv_cat _) ?_
    obtain ⟨k9, k8, hV⟩ := hV
    refine r_iald (kd := 60) hC dX7_meltBox_47 (by decide) rfl k9 k8 ?_
    refine r_iload_n hC dX7_meltBox_48 rfl ?_
    refine r_iadd hC dX7_meltBox_49 ?_
    obtain ⟨k9, k8, hV⟩ := hV
    refine r_iast (kd := 60) hC dX7_meltBox_50 (by decide) rfl k9 k8 (nmH (fun h5 k9 => ?_))
    replace hV := hV h5 k9
    refine r_aload_n hC dX7_meltBox_51 rfl ?_
    obtain ⟨k9, hV⟩ := hV
    refine r_getR hC dX7_meltBox_52 fl_7_7 rf_7_0 lq_7 k9 ?_
    refine r_bipush (v := 7) hC dX7_meltBox_55 (by decide) ?_
    refine r_dup2 hC dX7_meltBox_57 rfl (rv_cat _) ?_
    obtain ⟨k9, k8, hV⟩ := hV
    refine r_iald (kd := 60) hC dX7_meltBox_58 (by decide) rfl k9 k8 ?_
    refine r_iload_n hC dX7_meltBox_59 rfl ?_
    refine r_iadd hC dX7_meltBox_60 ?_
    obtain ⟨k9, k8, hV⟩ := hV
    refine r_iast (kd := 60) hC dX7_meltBox_61 (by decide) rfl k9 k8 (nmH (fun h6 k9 => ?_))
    replace hV := hV h6 k9
    refine r_iconst (v := 0) hC dX7_meltBox_62 (by decide) ?_
    refine r_istore (lo1 := [some (rv a0), some (.int r1), some (.int r2), some (.int (r2 - (r2 / 50))), some (.int 0)]) hC dX7_meltBox_63 (Nat.le_of_ble_eq_true rfl) rfl ?_
    refine r_sub (lo1 := [some (rv a0), none, none, some (.int (r2 - (r2 / 50))), some (.int 0)]) ⟨Or.inr rfl, ⟨Or.inl rfl, ⟨Or.inl rfl, ⟨Or.inr rfl, ⟨Or.inr rfl, trivial⟩⟩⟩⟩⟩ ?_
    obtain ⟨n9, hV⟩ := hV
    exact ok_X7_meltBox_65 hC hQ n9 a0 (r2 - (r2 / 50)) 0 h6 hV
  · replace hV := hV.2 k9
    refine r_bipush (v := (-5)) hC dX7_meltBox_9 (by decide) ?_
    exact r_iret hC hQ dX7_meltBox_11 (Nat.le_of_ble_eq_true rfl) (Nat.le_of_ble_eq_true rfl) ⟨_, rfl, hV⟩
set_option maxRecDepth 100000 in
set_option maxHeartbeats 4000000 in
theorem con_X7_meltBox {E : Ev} {l0 : Launch} (a0 : Nat) (h : Hp) (K : Int32 → Hp → Prop) (hV : V_X7_meltBox a0 h K) : Con E l0 yX7_meltBox cX7_meltBox 5 (some .int) rm_X7_meltBox [rv a0] h (KI K) := by
  refine Con.of (by decide +kernel) (cat_R cat_nil) (Nat.le_of_ble_eq_true rfl) (fun X hC hQ => ?_)
  refine r_sub (lo1 := [some (rv a0), none, none, none, none]) (show lsub [some (rv a0), none, none, none, none] _ from ⟨Or.inr rfl, ⟨Or.inr rfl, ⟨Or.inr rfl, ⟨Or.inr rfl, ⟨Or.inr rfl, trivial⟩⟩⟩⟩⟩) ?_
  exact ok_X7_meltBox_0 hC hQ a0 h hV
theorem dX7_missing_0 : decode cX7_missing 0 = .ok (.aload_n 0, 1) := by decide +kernel
theorem dX7_missing_1 : decode cX7_missing 1 = .ok (.iload_n 1, 1) := by decide +kernel
theorem dX7_missing_2 : decode cX7_missing 2 = .ok (.invokevirtual 144, 3) := by decide +kernel
theorem dX7_missing_5 : decode cX7_missing 5 = .ok (.ifCond .ne 10, 3) := by decide +kernel
theorem dX7_missing_8 : decode cX7_missing 8 = .ok (.iload_n 2, 1) := by decide +kernel
theorem dX7_missing_9 : decode cX7_missing 9 = .ok (.invokestatic 76, 3) := by decide +kernel
theorem dX7_missing_12 : decode cX7_missing 12 = .ok (.ifCond .eq 5, 3) := by decide +kernel
theorem dX7_missing_15 : decode cX7_missing 15 = .ok (.iconst (-1), 1) := by decide +kernel
theorem dX7_missing_16 : decode cX7_missing 16 = .ok (.ireturn, 1) := by decide +kernel
theorem dX7_missing_17 : decode cX7_missing 17 = .ok (.aload_n 0, 1) := by decide +kernel
theorem dX7_missing_18 : decode cX7_missing 18 = .ok (.iload_n 1, 1) := by decide +kernel
theorem dX7_missing_19 : decode cX7_missing 19 = .ok (.invokevirtual 147, 3) := by decide +kernel
theorem dX7_missing_22 : decode cX7_missing 22 = .ok (.aload_n 0, 1) := by decide +kernel
theorem dX7_missing_23 : decode cX7_missing 23 = .ok (.iload_n 2, 1) := by decide +kernel
theorem dX7_missing_24 : decode cX7_missing 24 = .ok (.invokevirtual 135, 3) := by decide +kernel
theorem dX7_missing_27 : decode cX7_missing 27 = .ok (.ireturn, 1) := by decide +kernel
def rm_X7_missing : Room := { frames := 6, cells := 0, slots := 0, locals := 137 }
set_option maxRecDepth 100000 in
set_option maxHeartbeats 4000000 in
theorem ok_X7_missing_15 {E : Ev} {X : Xt} {l0 : Launch} {K : Int32 → Hp → Prop} (hC : Cx E X l0 RX7 cX7_missing 3 rm_X7_missing) (hQ : CQ E X "missing" (some .int) rm_X7_missing (KI K)) (h : Hp) (hV : V_X7_missing_15 K  h) : WW E X h 0 0 15 [none, none, none] [] := by
  unfold V_X7_missing_15 at hV
  refine r_iconst (v := (-1)) hC dX7_missing_15 (by decide) ?_
  exact r_iret hC hQ dX7_missing_16 (Nat.le_of_ble_eq_true rfl) (Nat.le_of_ble_eq_true rfl) ⟨_, rfl, hV⟩
set_option maxRecDepth 100000 in
set_option maxHeartbeats 4000000 in
theorem ok_X7_missing_0 {E : Ev} {X : Xt} {l0 : Launch} {K : Int32 → Hp → Prop} (hC : Cx E X l0 RX7 cX7_missing 3 rm_X7_missing) (hQ : CQ E X "missing" (some .int) rm_X7_missing (KI K)) (a0 : Nat) (a1 : Int32) (a2 : Int32) (h : Hp) (hV : V_X7_missing a0 a1 a2 h K) : WW E X h 0 0 0 [some (rv a0), some (.int a1), some (.int a2)] [] := by
  unfold V_X7_missing at hV
  refine r_aload_n hC dX7_missing_0 rfl ?_
  refine r_iload_n hC dX7_missing_1 rfl ?_
  obtain ⟨k9, hV⟩ := hV
  refine r_callV (ci := 7) (As := [.int a1]) hC dX7_missing_2 rfl cf_X7_noJob ml_7_144 im_X7_noJob sl_X7_noJob lq_7 rfl rfl k9 rfl ⟨Nat.le_of_ble_eq_true rfl, Nat.le_of_ble_eq_true rfl, Nat.le_of_ble_eq_true rfl, Nat.le_of_ble_eq_true rfl⟩ cs0 (Nat.le_of_ble_eq_true rfl) (con_X7_noJob a0 a1 h _ hV) rfl (kI (k := 0) (n := 0) (fun r1 h1 hV => ?_))
  refine r_if_ne (tgt := 15) hC dX7_missing_5 (by decide) (fun k9 => ?_) (fun k9 => ?_)
  · replace hV := hV.1 k9
    refine r_sub (lo1 := [none, none, none]) ⟨Or.inl rfl, ⟨Or.inl rfl, ⟨Or.inl rfl, trivial⟩⟩⟩ ?_
    exact ok_X7_missing_15 hC hQ  h1 hV
  · replace hV := hV.2 k9
    refine r_iload_n hC dX7_missing_8 rfl ?_
    refine r_callS (As := [.int a2]) hC dX7_missing_9 rfl cf_X7_noSort ml_7_76 st_X7_noSort rfl ⟨Nat.le_of_ble_eq_true rfl, Nat.le_of_ble_eq_true rfl, Nat.le_of_ble_eq_true rfl, Nat.le_of_ble_eq_true rfl⟩ cs0 (Nat.le_of_ble_eq_true rfl) (con_X7_noSort a2 h1 _ hV) rfl (kI (k := 0) (n := 0) (fun r2 h2 hV => ?_))
    refine r_if_eq (tgt := 17) hC dX7_missing_12 (by decide) (fun k9 => ?_) (fun k9 => ?_)
    · replace hV := hV.1 k9
      refine r_aload_n hC dX7_missing_17 rfl ?_
      refine r_iload_n hC dX7_missing_18 rfl ?_
      obtain ⟨k9, hV⟩ := hV
      refine r_callV (ci := 7) (As := [.int a1]) hC dX7_missing_19 rfl cf_X7_layNeeds ml_7_147 im_X7_layNeeds sl_X7_layNeeds lq_7 rfl rfl k9 rfl ⟨Nat.le_of_ble_eq_true rfl, Nat.le_of_ble_eq_true rfl, Nat.le_of_ble_eq_true rfl, Nat.le_of_ble_eq_true rfl⟩ cs0 (Nat.le_of_ble_eq_true rfl) (con_X7_layNeeds a0 a1 h2 _ hV) rfl (kV (k := 0) (n := 0) (fun h3 hV => ?_))
      refine r_aload_n hC dX7_missing_22 rfl ?_
      refine r_iload_n hC dX7_missing_23 rfl ?_
      obtain ⟨k9, hV⟩ := hV
      refine r_callV (ci := 7) (As := [.int a2]) hC dX7_missing_24 rfl cf_X7_lacks ml_7_135 im_X7_lacks sl_X7_lacks lq_7 rfl rfl k9 rfl ⟨Nat.le_of_ble_eq_true rfl, Nat.le_of_ble_eq_true rfl, Nat.le_of_ble_eq_true rfl, Nat.le_of_ble_eq_true rfl⟩ cs0 (Nat.le_of_ble_eq_true rfl) (con_X7_lacks a0 a2 h3 _ hV) rfl (kI (k := 0) (n := 0) (fun r3 h4 hV => ?_))
      exact r_iret hC hQ dX7_missing_27 (Nat.le_of_ble_eq_true rfl) (Nat.le_of_ble_eq_true rfl) ⟨_, rfl, hV⟩
    · replace hV := hV.2 k9
      refine r_sub (lo1 := [none, none, none]) ⟨Or.inl rfl, ⟨Or.inl rfl, ⟨Or.inl rfl, trivial⟩⟩⟩ ?_
      exact ok_X7_missing_15 hC hQ  h2 hV
set_option maxRecDepth 100000 in
set_option maxHeartbeats 4000000 in
theorem con_X7_missing {E : Ev} {l0 : Launch} (a0 : Nat) (a1 : Int32) (a2 : Int32) (h : Hp) (K : Int32 → Hp → Prop) (hV : V_X7_missing a0 a1 a2 h K) : Con E l0 yX7_missing cX7_missing 3 (some .int) rm_X7_missing [rv a0, .int a1, .int a2] h (KI K) := by
  refine Con.of (by decide +kernel) (cat_R (cat_I (cat_I cat_nil))) (Nat.le_of_ble_eq_true rfl) (fun X hC hQ => ?_)
  refine r_sub (lo1 := [some (rv a0), some (.int a1), some (.int a2)]) (show lsub [some (rv a0), some (.int a1), some (.int a2)] _ from ⟨Or.inr rfl, ⟨Or.inr rfl, ⟨Or.inr rfl, trivial⟩⟩⟩) ?_
  exact ok_X7_missing_0 hC hQ a0 a1 a2 h hV
theorem dX7_need_0 : decode cX7_need 0 = .ok (.aload_n 0, 1) := by decide +kernel
theorem dX7_need_1 : decode cX7_need 1 = .ok (.iload_n 1, 1) := by decide +kernel
theorem dX7_need_2 : decode cX7_need 2 = .ok (.invokevirtual 144, 3) := by decide +kernel
theorem dX7_need_5 : decode cX7_need 5 = .ok (.ifCond .ne 10, 3) := by decide +kernel
theorem dX7_need_8 : decode cX7_need 8 = .ok (.iload_n 2, 1) := by decide +kernel
theorem dX7_need_9 : decode cX7_need 9 = .ok (.invokestatic 76, 3) := by decide +kernel
theorem dX7_need_12 : decode cX7_need 12 = .ok (.ifCond .eq 5, 3) := by decide +kernel
theorem dX7_need_15 : decode cX7_need 15 = .ok (.iconst (-1), 1) := by decide +kernel
theorem dX7_need_16 : decode cX7_need 16 = .ok (.ireturn, 1) := by decide +kernel
theorem dX7_need_17 : decode cX7_need 17 = .ok (.aload_n 0, 1) := by decide +kernel
theorem dX7_need_18 : decode cX7_need 18 = .ok (.iload_n 1, 1) := by decide +kernel
theorem dX7_need_19 : decode cX7_need 19 = .ok (.invokevirtual 147, 3) := by decide +kernel
theorem dX7_need_22 : decode cX7_need 22 = .ok (.aload_n 0, 1) := by decide +kernel
theorem dX7_need_23 : decode cX7_need 23 = .ok (.getfield 37, 3) := by decide +kernel
theorem dX7_need_26 : decode cX7_need 26 = .ok (.iload_n 2, 1) := by decide +kernel
theorem dX7_need_27 : decode cX7_need 27 = .ok (.iaload, 1) := by decide +kernel
theorem dX7_need_28 : decode cX7_need 28 = .ok (.ireturn, 1) := by decide +kernel
def rm_X7_need : Room := { frames := 6, cells := 0, slots := 0, locals := 137 }
set_option maxRecDepth 100000 in
set_option maxHeartbeats 4000000 in
theorem ok_X7_need_15 {E : Ev} {X : Xt} {l0 : Launch} {K : Int32 → Hp → Prop} (hC : Cx E X l0 RX7 cX7_need 3 rm_X7_need) (hQ : CQ E X "need" (some .int) rm_X7_need (KI K)) (h : Hp) (hV : V_X7_need_15 K  h) : WW E X h 0 0 15 [none, none, none] [] := by
  unfold V_X7_need_15 at hV
  refine r_iconst (v := (-1)) hC dX7_need_15 (by decide) ?_
  exact r_iret hC hQ dX7_need_16 (Nat.le_of_ble_eq_true rfl) (Nat.le_of_ble_eq_true rfl) ⟨_, rfl, hV⟩
set_option maxRecDepth 100000 in
set_option maxHeartbeats 4000000 in
theorem ok_X7_need_0 {E : Ev} {X : Xt} {l0 : Launch} {K : Int32 → Hp → Prop} (hC : Cx E X l0 RX7 cX7_need 3 rm_X7_need) (hQ : CQ E X "need" (some .int) rm_X7_need (KI K)) (a0 : Nat) (a1 : Int32) (a2 : Int32) (h : Hp) (hV : V_X7_need a0 a1 a2 h K) : WW E X h 0 0 0 [some (rv a0), some (.int a1), some (.int a2)] [] := by
  unfold V_X7_need at hV
  refine r_aload_n hC dX7_need_0 rfl ?_
  refine r_iload_n hC dX7_need_1 rfl ?_
  obtain ⟨k9, hV⟩ := hV
  refine r_callV (ci := 7) (As := [.int a1]) hC dX7_need_2 rfl cf_X7_noJob ml_7_144 im_X7_noJob sl_X7_noJob lq_7 rfl rfl k9 rfl ⟨Nat.le_of_ble_eq_true rfl, Nat.le_of_ble_eq_true rfl, Nat.le_of_ble_eq_true rfl, Nat.le_of_ble_eq_true rfl⟩ cs0 (Nat.le_of_ble_eq_true rfl) (con_X7_noJob a0 a1 h _ hV) rfl (kI (k := 0) (n := 0) (fun r1 h1 hV => ?_))
  refine r_if_ne (tgt := 15) hC dX7_need_5 (by decide) (fun k9 => ?_) (fun k9 => ?_)
  · replace hV := hV.1 k9
    refine r_sub (lo1 := [none, none, none]) ⟨Or.inl rfl, ⟨Or.inl rfl, ⟨Or.inl rfl, trivial⟩⟩⟩ ?_
    exact ok_X7_need_15 hC hQ  h1 hV
  · replace hV := hV.2 k9
    refine r_iload_n hC dX7_need_8 rfl ?_
    refine r_callS (As := [.int a2]) hC dX7_need_9 rfl cf_X7_noSort ml_7_76 st_X7_noSort rfl ⟨Nat.le_of_ble_eq_true rfl, Nat.le_of_ble_eq_true rfl, Nat.le_of_ble_eq_true rfl, Nat.le_of_ble_eq_true rfl⟩ cs0 (Nat.le_of_ble_eq_true rfl) (con_X7_noSort a2 h1 _ hV) rfl (kI (k := 0) (n := 0) (fun r2 h2 hV => ?_))
    refine r_if_eq (tgt := 17) hC dX7_need_12 (by decide) (fun k9 => ?_) (fun k9 => ?_)
    · replace hV := hV.1 k9
      refine r_aload_n hC dX7_need_17 rfl ?_
      refine r_iload_n hC dX7_need_18 rfl ?_
      obtain ⟨k9, hV⟩ := hV
      refine r_callV (ci := 7) (As := [.int a1]) hC dX7_need_19 rfl cf_X7_layNeeds ml_7_147 im_X7_layNeeds sl_X7_layNeeds lq_7 rfl rfl k9 rfl ⟨Nat.le_of_ble_eq_true rfl, Nat.le_of_ble_eq_true rfl, Nat.le_of_ble_eq_true rfl, Nat.le_of_ble_eq_true rfl⟩ cs0 (Nat.le_of_ble_eq_true rfl) (con_X7_layNeeds a0 a1 h2 _ hV) rfl (kV (k := 0) (n := 0) (fun h3 hV => ?_))
      refine r_aload_n hC dX7_need_22 rfl ?_
      obtain ⟨k9, hV⟩ := hV
      refine r_getR hC dX7_need_23 fl_7_37 rf_7_17 lq_7 k9 ?_
      refine r_iload_n hC dX7_need_26 rfl ?_
      obtain ⟨k9, k8, hV⟩ := hV
      refine r_iald (kd := 77) hC dX7_need_27 (by decide) rfl k9 k8 ?_
      exact r_iret hC hQ dX7_need_28 (Nat.le_of_ble_eq_true rfl) (Nat.le_of_ble_eq_true rfl) ⟨_, rfl, hV⟩
    · replace hV := hV.2 k9
      refine r_sub (lo1 := [none, none, none]) ⟨Or.inl rfl, ⟨Or.inl rfl, ⟨Or.inl rfl, trivial⟩⟩⟩ ?_
      exact ok_X7_need_15 hC hQ  h2 hV
set_option maxRecDepth 100000 in
set_option maxHeartbeats 4000000 in
theorem con_X7_need {E : Ev} {l0 : Launch} (a0 : Nat) (a1 : Int32) (a2 : Int32) (h : Hp) (K : Int32 → Hp → Prop) (hV : V_X7_need a0 a1 a2 h K) : Con E l0 yX7_need cX7_need 3 (some .int) rm_X7_need [rv a0, .int a1, .int a2] h (KI K) := by
  refine Con.of (by decide +kernel) (cat_R (cat_I (cat_I cat_nil))) (Nat.le_of_ble_eq_true rfl) (fun X hC hQ => ?_)
  refine r_sub (lo1 := [some (rv a0), some (.int a1), some (.int a2)]) (show lsub [some (rv a0), some (.int a1), some (.int a2)] _ from ⟨Or.inr rfl, ⟨Or.inr rfl, ⟨Or.inr rfl, trivial⟩⟩⟩) ?_
  exact ok_X7_need_0 hC hQ a0 a1 a2 h hV
theorem dX7_order_0 : decode cX7_order 0 = .ok (.aload_n 0, 1) := by decide +kernel
theorem dX7_order_1 : decode cX7_order 1 = .ok (.iload_n 1, 1) := by decide +kernel
theorem dX7_order_2 : decode cX7_order 2 = .ok (.invokevirtual 72, 3) := by decide +kernel
theorem dX7_order_5 : decode cX7_order 5 = .ok (.ifCond .eq 5, 3) := by decide +kernel
theorem dX7_order_8 : decode cX7_order 8 = .ok (.iconst (-1), 1) := by decide +kernel
theorem dX7_order_9 : decode cX7_order 9 = .ok (.ireturn, 1) := by decide +kernel
theorem dX7_order_10 : decode cX7_order 10 = .ok (.iload_n 2, 1) := by decide +kernel
theorem dX7_order_11 : decode cX7_order 11 = .ok (.bipush 10, 2) := by decide +kernel
theorem dX7_order_13 : decode cX7_order 13 = .ok (.sipush 150, 3) := by decide +kernel
theorem dX7_order_16 : decode cX7_order 16 = .ok (.invokestatic 56, 3) := by decide +kernel
theorem dX7_order_19 : decode cX7_order 19 = .ok (.ifCond .eq 14, 3) := by decide +kernel
theorem dX7_order_22 : decode cX7_order 22 = .ok (.iload_n 3, 1) := by decide +kernel
theorem dX7_order_23 : decode cX7_order 23 = .ok (.iconst 0, 1) := by decide +kernel
theorem dX7_order_24 : decode cX7_order 24 = .ok (.sipush 9999, 3) := by decide +kernel
theorem dX7_order_27 : decode cX7_order 27 = .ok (.invokestatic 56, 3) := by decide +kernel
theorem dX7_order_30 : decode cX7_order 30 = .ok (.ifCond .ne 6, 3) := by decide +kernel
theorem dX7_order_33 : decode cX7_order 33 = .ok (.bipush (-2), 2) := by decide +kernel
theorem dX7_order_35 : decode cX7_order 35 = .ok (.ireturn, 1) := by decide +kernel
theorem dX7_order_36 : decode cX7_order 36 = .ok (.aload_n 0, 1) := by decide +kernel
theorem dX7_order_37 : decode cX7_order 37 = .ok (.invokevirtual 138, 3) := by decide +kernel
theorem dX7_order_40 : decode cX7_order 40 = .ok (.istore 4, 2) := by decide +kernel
theorem dX7_order_42 : decode cX7_order 42 = .ok (.iload 4, 2) := by decide +kernel
theorem dX7_order_44 : decode cX7_order 44 = .ok (.bipush (-5), 2) := by decide +kernel
theorem dX7_order_46 : decode cX7_order 46 = .ok (.if_icmp .eq 9, 3) := by decide +kernel
theorem dX7_order_49 : decode cX7_order 49 = .ok (.bipush (-100), 2) := by decide +kernel
theorem dX7_order_51 : decode cX7_order 51 = .ok (.iload 4, 2) := by decide +kernel
theorem dX7_order_53 : decode cX7_order 53 = .ok (.isub, 1) := by decide +kernel
theorem dX7_order_54 : decode cX7_order 54 = .ok (.ireturn, 1) := by decide +kernel
theorem dX7_order_55 : decode cX7_order 55 = .ok (.aload_n 0, 1) := by decide +kernel
theorem dX7_order_56 : decode cX7_order 56 = .ok (.aload_n 0, 1) := by decide +kernel
theorem dX7_order_57 : decode cX7_order 57 = .ok (.getfield 93, 3) := by decide +kernel
theorem dX7_order_60 : decode cX7_order 60 = .ok (.putfield 112, 3) := by decide +kernel
theorem dX7_order_63 : decode cX7_order 63 = .ok (.iconst 0, 1) := by decide +kernel
theorem dX7_order_64 : decode cX7_order 64 = .ok (.istore 5, 2) := by decide +kernel
theorem dX7_order_66 : decode cX7_order 66 = .ok (.iload 5, 2) := by decide +kernel
theorem dX7_order_68 : decode cX7_order 68 = .ok (.aload_n 0, 1) := by decide +kernel
theorem dX7_order_69 : decode cX7_order 69 = .ok (.getfield 93, 3) := by decide +kernel
theorem dX7_order_72 : decode cX7_order 72 = .ok (.if_icmp .ge 23, 3) := by decide +kernel
theorem dX7_order_75 : decode cX7_order 75 = .ok (.aload_n 0, 1) := by decide +kernel
theorem dX7_order_76 : decode cX7_order 76 = .ok (.getfield 22, 3) := by decide +kernel
theorem dX7_order_79 : decode cX7_order 79 = .ok (.iload 5, 2) := by decide +kernel
theorem dX7_order_81 : decode cX7_order 81 = .ok (.aload_n 0, 1) := by decide +kernel
theorem dX7_order_82 : decode cX7_order 82 = .ok (.getfield 19, 3) := by decide +kernel
theorem dX7_order_85 : decode cX7_order 85 = .ok (.iload 5, 2) := by decide +kernel
theorem dX7_order_87 : decode cX7_order 87 = .ok (.iaload, 1) := by decide +kernel
theorem dX7_order_88 : decode cX7_order 88 = .ok (.iastore, 1) := by decide +kernel
theorem dX7_order_89 : decode cX7_order 89 = .ok (.iinc 5 1, 3) := by decide +kernel
theorem dX7_order_92 : decode cX7_order 92 = .ok (.goto (-26), 3) := by decide +kernel
theorem dX7_order_95 : decode cX7_order 95 = .ok (.aload_n 0, 1) := by decide +kernel
theorem dX7_order_96 : decode cX7_order 96 = .ok (.iload_n 2, 1) := by decide +kernel
theorem dX7_order_97 : decode cX7_order 97 = .ok (.invokevirtual 118, 3) := by decide +kernel
theorem dX7_order_100 : decode cX7_order 100 = .ok (.aload_n 0, 1) := by decide +kernel
theorem dX7_order_101 : decode cX7_order 101 = .ok (.getfield 102, 3) := by decide +kernel
theorem dX7_order_104 : decode cX7_order 104 = .ok (.ifCond .eq 6, 3) := by decide +kernel
theorem dX7_order_107 : decode cX7_order 107 = .ok (.bipush (-4), 2) := by decide +kernel
theorem dX7_order_109 : decode cX7_order 109 = .ok (.ireturn, 1) := by decide +kernel
theorem dX7_order_110 : decode cX7_order 110 = .ok (.aload_n 0, 1) := by decide +kernel
theorem dX7_order_111 : decode cX7_order 111 = .ok (.getfield 7, 3) := by decide +kernel
theorem dX7_order_114 : decode cX7_order 114 = .ok (.iconst 1, 1) := by decide +kernel
theorem dX7_order_115 : decode cX7_order 115 = .ok (.iaload, 1) := by decide +kernel
theorem dX7_order_116 : decode cX7_order 116 = .ok (.bipush 12, 2) := by decide +kernel
theorem dX7_order_118 : decode cX7_order 118 = .ok (.if_icmp .ne 6, 3) := by decide +kernel
theorem dX7_order_121 : decode cX7_order 121 = .ok (.bipush (-3), 2) := by decide +kernel
theorem dX7_order_123 : decode cX7_order 123 = .ok (.ireturn, 1) := by decide +kernel
theorem dX7_order_124 : decode cX7_order 124 = .ok (.aload_n 0, 1) := by decide +kernel
theorem dX7_order_125 : decode cX7_order 125 = .ok (.invokevirtual 65, 3) := by decide +kernel
theorem dX7_order_128 : decode cX7_order 128 = .ok (.aload_n 0, 1) := by decide +kernel
theorem dX7_order_129 : decode cX7_order 129 = .ok (.getfield 7, 3) := by decide +kernel
theorem dX7_order_132 : decode cX7_order 132 = .ok (.iconst 1, 1) := by decide +kernel
theorem dX7_order_133 : decode cX7_order 133 = .ok (.iaload, 1) := by decide +kernel
theorem dX7_order_134 : decode cX7_order 134 = .ok (.istore 5, 2) := by decide +kernel
theorem dX7_order_136 : decode cX7_order 136 = .ok (.iconst 0, 1) := by decide +kernel
theorem dX7_order_137 : decode cX7_order 137 = .ok (.istore 6, 2) := by decide +kernel
theorem dX7_order_139 : decode cX7_order 139 = .ok (.iload 6, 2) := by decide +kernel
theorem dX7_order_141 : decode cX7_order 141 = .ok (.sipush 272, 3) := by decide +kernel
theorem dX7_order_144 : decode cX7_order 144 = .ok (.if_icmp .ge 18, 3) := by decide +kernel
theorem dX7_order_147 : decode cX7_order 147 = .ok (.aload_n 0, 1) := by decide +kernel
theorem dX7_order_148 : decode cX7_order 148 = .ok (.iload 5, 2) := by decide +kernel
theorem dX7_order_150 : decode cX7_order 150 = .ok (.iload 6, 2) := by decide +kernel
theorem dX7_order_152 : decode cX7_order 152 = .ok (.iconst 0, 1) := by decide +kernel
theorem dX7_order_153 : decode cX7_order 153 = .ok (.invokevirtual 141, 3) := by decide +kernel
theorem dX7_order_156 : decode cX7_order 156 = .ok (.iinc 6 1, 3) := by decide +kernel
theorem dX7_order_159 : decode cX7_order 159 = .ok (.goto (-20), 3) := by decide +kernel
theorem dX7_order_162 : decode cX7_order 162 = .ok (.aload_n 0, 1) := by decide +kernel
theorem dX7_order_163 : decode cX7_order 163 = .ok (.iload 5, 2) := by decide +kernel
theorem dX7_order_165 : decode cX7_order 165 = .ok (.iconst 0, 1) := by decide +kernel
theorem dX7_order_166 : decode cX7_order 166 = .ok (.iload_n 1, 1) := by decide +kernel
theorem dX7_order_167 : decode cX7_order 167 = .ok (.invokevirtual 141, 3) := by decide +kernel
theorem dX7_order_170 : decode cX7_order 170 = .ok (.aload_n 0, 1) := by decide +kernel
theorem dX7_order_171 : decode cX7_order 171 = .ok (.iload 5, 2) := by decide +kernel
theorem dX7_order_173 : decode cX7_order 173 = .ok (.iconst 1, 1) := by decide +kernel
theorem dX7_order_174 : decode cX7_order 174 = .ok (.iload_n 2, 1) := by decide +kernel
theorem dX7_order_175 : decode cX7_order 175 = .ok (.invokevirtual 141, 3) := by decide +kernel
theorem dX7_order_178 : decode cX7_order 178 = .ok (.aload_n 0, 1) := by decide +kernel
theorem dX7_order_179 : decode cX7_order 179 = .ok (.iload 5, 2) := by decide +kernel
theorem dX7_order_181 : decode cX7_order 181 = .ok (.iconst 2, 1) := by decide +kernel
theorem dX7_order_182 : decode cX7_order 182 = .ok (.iload_n 3, 1) := by decide +kernel
theorem dX7_order_183 : decode cX7_order 183 = .ok (.invokevirtual 141, 3) := by decide +kernel
theorem dX7_order_186 : decode cX7_order 186 = .ok (.aload_n 0, 1) := by decide +kernel
theorem dX7_order_187 : decode cX7_order 187 = .ok (.iload 5, 2) := by decide +kernel
theorem dX7_order_189 : decode cX7_order 189 = .ok (.iconst 4, 1) := by decide +kernel
theorem dX7_order_190 : decode cX7_order 190 = .ok (.bipush (-5), 2) := by decide +kernel
theorem dX7_order_192 : decode cX7_order 192 = .ok (.invokevirtual 141, 3) := by decide +kernel
theorem dX7_order_195 : decode cX7_order 195 = .ok (.aload_n 0, 1) := by decide +kernel
theorem dX7_order_196 : decode cX7_order 196 = .ok (.iload 5, 2) := by decide +kernel
theorem dX7_order_198 : decode cX7_order 198 = .ok (.iconst 5, 1) := by decide +kernel
theorem dX7_order_199 : decode cX7_order 199 = .ok (.bipush (-5), 2) := by decide +kernel
theorem dX7_order_201 : decode cX7_order 201 = .ok (.invokevirtual 141, 3) := by decide +kernel
theorem dX7_order_204 : decode cX7_order 204 = .ok (.aload_n 0, 1) := by decide +kernel
theorem dX7_order_205 : decode cX7_order 205 = .ok (.iload 5, 2) := by decide +kernel
theorem dX7_order_207 : decode cX7_order 207 = .ok (.bipush 6, 2) := by decide +kernel
theorem dX7_order_209 : decode cX7_order 209 = .ok (.aload_n 0, 1) := by decide +kernel
theorem dX7_order_210 : decode cX7_order 210 = .ok (.getfield 93, 3) := by decide +kernel
theorem dX7_order_213 : decode cX7_order 213 = .ok (.invokevirtual 141, 3) := by decide +kernel
theorem dX7_order_216 : decode cX7_order 216 = .ok (.iconst 0, 1) := by decide +kernel
theorem dX7_order_217 : decode cX7_order 217 = .ok (.istore 6, 2) := by decide +kernel
theorem dX7_order_219 : decode cX7_order 219 = .ok (.iload 6, 2) := by decide +kernel
theorem dX7_order_221 : decode cX7_order 221 = .ok (.aload_n 0, 1) := by decide +kernel
theorem dX7_order_222 : decode cX7_order 222 = .ok (.getfield 93, 3) := by decide +kernel
theorem dX7_order_225 : decode cX7_order 225 = .ok (.if_icmp .ge 27, 3) := by decide +kernel
theorem dX7_order_228 : decode cX7_order 228 = .ok (.aload_n 0, 1) := by decide +kernel
theorem dX7_order_229 : decode cX7_order 229 = .ok (.iload 5, 2) := by decide +kernel
theorem dX7_order_231 : decode cX7_order 231 = .ok (.bipush 7, 2) := by decide +kernel
theorem dX7_order_233 : decode cX7_order 233 = .ok (.iload 6, 2) := by decide +kernel
theorem dX7_order_235 : decode cX7_order 235 = .ok (.iadd, 1) := by decide +kernel
theorem dX7_order_236 : decode cX7_order 236 = .ok (.aload_n 0, 1) := by decide +kernel
theorem dX7_order_237 : decode cX7_order 237 = .ok (.getfield 19, 3) := by decide +kernel
theorem dX7_order_240 : decode cX7_order 240 = .ok (.iload 6, 2) := by decide +kernel
theorem dX7_order_242 : decode cX7_order 242 = .ok (.iaload, 1) := by decide +kernel
theorem dX7_order_243 : decode cX7_order 243 = .ok (.invokevirtual 141, 3) := by decide +kernel
theorem dX7_order_246 : decode cX7_order 246 = .ok (.iinc 6 1, 3) := by decide +kernel
theorem dX7_order_249 : decode cX7_order 249 = .ok (.goto (-30), 3) := by decide +kernel
theorem dX7_order_252 : decode cX7_order 252 = .ok (.aload_n 0, 1) := by decide +kernel
theorem dX7_order_253 : decode cX7_order 253 = .ok (.getfield 7, 3) := by decide +kernel
theorem dX7_order_256 : decode cX7_order 256 = .ok (.iconst 1, 1) := by decide +kernel
theorem dX7_order_257 : decode cX7_order 257 = .ok (.dup2, 1) := by decide +kernel
theorem dX7_order_258 : decode cX7_order 258 = .ok (.iaload, 1) := by decide +kernel
theorem dX7_order_259 : decode cX7_order 259 = .ok (.iconst 1, 1) := by decide +kernel
theorem dX7_order_260 : decode cX7_order 260 = .ok (.iadd, 1) := by decide +kernel
theorem dX7_order_261 : decode cX7_order 261 = .ok (.iastore, 1) := by decide +kernel
theorem dX7_order_262 : decode cX7_order 262 = .ok (.iload 5, 2) := by decide +kernel
theorem dX7_order_264 : decode cX7_order 264 = .ok (.ireturn, 1) := by decide +kernel
def rm_X7_order : Room := { frames := 4, cells := 0, slots := 0, locals := 92 }
set_option maxRecDepth 100000 in
set_option maxHeartbeats 4000000 in
theorem ok_X7_order_33 {E : Ev} {X : Xt} {l0 : Launch} {K : Int32 → Hp → Prop} (hC : Cx E X l0 RX7 cX7_order 7 rm_X7_order) (hQ : CQ E X "order" (some .int) rm_X7_order (KI K)) (h : Hp) (hV : V_X7_order_33 K  h) : WW E X h 0 0 33 [none, none, none, none, none, none, none] [] := by
  unfold V_X7_order_33 at hV
  refine r_bipush (v := (-2)) hC dX7_order_33 (by decide) ?_
  exact r_iret hC hQ dX7_order_35 (Nat.le_of_ble_eq_true rfl) (Nat.le_of_ble_eq_true rfl) ⟨_, rfl, hV⟩
set_option maxRecDepth 100000 in
set_option maxHeartbeats 4000000 in
theorem ok_X7_order_219 {E : Ev} {X : Xt} {l0 : Launch} {K : Int32 → Hp → Prop} (hC : Cx E X l0 RX7 cX7_order 7 rm_X7_order) (hQ : CQ E X "order" (some .int) rm_X7_order (KI K)) : ∀ (n : Nat) (a0 : Nat) (a5 : Int32) (a6 : Int32) (h : Hp), V_X7_order_219 K n a0 a5 a6 h → WW E X h 0 0 219 [some (rv a0), none, none, none, none, some (.int a5), some (.int a6)] [] := by
  intro n
  induction n with
  | zero => intro a0 a5 a6 h hV; exact hV.elim
  | succ n ih =>
    intro a0 a5 a6 h hV
    unfold V_X7_order_219 at hV
    refine r_iload hC dX7_order_219 rfl ?_
    refine r_aload_n hC dX7_order_221 rfl ?_
    obtain ⟨k9, hV⟩ := hV
    refine r_getI hC dX7_order_222 fl_7_93 rf_7_5 lq_7 k9 ?_
    refine r_icmp_ge (tgt := 252) hC dX7_order_225 (by decide) (fun k9 => ?_) (fun k9 => ?_)
    · replace hV := hV.1 k9
      refine r_aload_n hC dX7_order_252 rfl ?_
      obtain ⟨k9, hV⟩ := hV
      refine r_getR hC dX7_order_253 fl_7_7 rf_7_0 lq_7 k9 ?_
      refine r_iconst (v := 1) hC dX7_order_256 (by decide) ?_
      refine r_dup2 hC dX7_order_257 rfl (rv_cat _) ?_
      obtain ⟨k9, k8, hV⟩ := hV
      refine r_iald (kd := 60) hC dX7_order_258 (by decide) rfl k9 k8 ?_
      refine r_iconst (v := 1) hC dX7_order_259 (by decide) ?_
      refine r_iadd hC dX7_order_260 ?_
      obtain ⟨k9, k8, hV⟩ := hV
      refine r_iast (kd := 60) hC dX7_order_261 (by decide) rfl k9 k8 (nmH (fun h1 k9 => ?_))
      replace hV := hV h1 k9
      refine r_iload hC dX7_order_262 rfl ?_
      exact r_iret hC hQ dX7_order_264 (Nat.le_of_ble_eq_true rfl) (Nat.le_of_ble_eq_true rfl) ⟨_, rfl, hV⟩
    · replace hV := hV.2 k9
      refine r_aload_n hC dX7_order_228 rfl ?_
      refine r_iload hC dX7_order_229 rfl ?_
      refine r_bipush (v := 7) hC dX7_order_231 (by decide) ?_
      refine r_iload hC dX7_order_233 rfl ?_
      refine r_iadd hC dX7_order_235 ?_
      refine r_aload_n hC dX7_order_236 rfl ?_
      obtain ⟨k9, hV⟩ := hV
      refine r_getR hC dX7_order_237 fl_7_19 rf_7_6 lq_7 k9 ?_
      refine r_iload hC dX7_order_240 rfl ?_
      obtain ⟨k9, k8, hV⟩ := hV
      refine r_iald (kd := 66) hC dX7_order_242 (by decide) rfl k9 k8 ?_
      obtain ⟨k9, hV⟩ := hV
      refine r_callV (ci := 7) (As := [.int a5, .int (7 + a6), .int (hI h (hR h a0 6) (ix a6))]) hC dX7_order_243 rfl cf_X7_put ml_7_141 im_X7_put sl_X7_put lq_7 rfl rfl k9 rfl ⟨Nat.le_of_ble_eq_true rfl, Nat.le_of_ble_eq_true rfl, Nat.le_of_ble_eq_true rfl, Nat.le_of_ble_eq_true rfl⟩ cs0 (Nat.le_of_ble_eq_true rfl) (con_X7_put a0 a5 (7 + a6) (hI h (hR h a0 6) (ix a6)) h _ hV) rfl (kV (k := 0) (n := 0) (fun h1 hV => ?_))
      refine r_iinc (v := 1) (lo1 := [some (rv a0), none, none, none, none, some (.int a5), some (.int (a6 + 1))]) hC dX7_order_246 rfl (by decide) rfl ?_
      refine r_goto (tgt := 219) hC dX7_order_249 (by decide) ?_
      exact ih a0 a5 (a6 + 1) h1 hV
set_option maxRecDepth 100000 in
set_option maxHeartbeats 4000000 in
theorem ok_X7_order_139 {E : Ev} {X : Xt} {l0 : Launch} {K : Int32 → Hp → Prop} (hC : Cx E X l0 RX7 cX7_order 7 rm_X7_order) (hQ : CQ E X "order" (some .int) rm_X7_order (KI K)) : ∀ (n : Nat) (a0 : Nat) (a1 : Int32) (a2 : Int32) (a3 : Int32) (a5 : Int32) (a6 : Int32) (h : Hp), V_X7_order_139 K n a0 a1 a2 a3 a5 a6 h → WW E X h 0 0 139 [some (rv a0), some (.int a1), some (.int a2), some (.int a3), none, some (.int a5), some (.int a6)] [] := by
  intro n
  induction n with
  | zero => intro a0 a1 a2 a3 a5 a6 h hV; exact hV.elim
  | succ n ih =>
    intro a0 a1 a2 a3 a5 a6 h hV
    unfold V_X7_order_139 at hV
    refine r_iload hC dX7_order_139 rfl ?_
    refine r_sipush (v := 272) hC dX7_order_141 (by decide) ?_
    refine r_icmp_ge (tgt := 162) hC dX7_order_144 (by decide) (fun k9 => ?_) (fun k9 => ?_)
    · replace hV := hV.1 k9
      refine r_aload_n hC dX7_order_162 rfl ?_
      refine r_iload hC dX7_order_163 rfl ?_
      refine r_iconst (v := 0) hC dX7_order_165 (by decide) ?_
      refine r_iload_n hC dX7_order_166 rfl ?_
      obtain ⟨k9, hV⟩ := hV
      refine r_callV (ci := 7) (As := [.int a5, .int 0, .int a1]) hC dX7_order_167 rfl cf_X7_put ml_7_141 im_X7_put sl_X7_put lq_7 rfl rfl k9 rfl ⟨Nat.le_of_ble_eq_true rfl, Nat.le_of_ble_eq_true rfl, Nat.le_of_ble_eq_true rfl, Nat.le_of_ble_eq_true rfl⟩ cs0 (Nat.le_of_ble_eq_true rfl) (con_X7_put a0 a5 0 a1 h _ hV) rfl (kV (k := 0) (n := 0) (fun h1 hV => ?_))
      refine r_aload_n hC dX7_order_170 rfl ?_
      refine r_iload hC dX7_order_171 rfl ?_
      refine r_iconst (v := 1) hC dX7_order_173 (by decide) ?_
      refine r_iload_n hC dX7_order_174 rfl ?_
      obtain ⟨k9, hV⟩ := hV
      refine r_callV (ci := 7) (As := [.int a5, .int 1, .int a2]) hC dX7_order_175 rfl cf_X7_put ml_7_141 im_X7_put sl_X7_put lq_7 rfl rfl k9 rfl ⟨Nat.le_of_ble_eq_true rfl, Nat.le_of_ble_eq_true rfl, Nat.le_of_ble_eq_true rfl, Nat.le_of_ble_eq_true rfl⟩ cs0 (Nat.le_of_ble_eq_true rfl) (con_X7_put a0 a5 1 a2 h1 _ hV) rfl (kV (k := 0) (n := 0) (fun h2 hV => ?_))
      refine r_aload_n hC dX7_order_178 rfl ?_
      refine r_iload hC dX7_order_179 rfl ?_
      refine r_iconst (v := 2) hC dX7_order_181 (by decide) ?_
      refine r_iload_n hC dX7_order_182 rfl ?_
      obtain ⟨k9, hV⟩ := hV
      refine r_callV (ci := 7) (As := [.int a5, .int 2, .int a3]) hC dX7_order_183 rfl cf_X7_put ml_7_141 im_X7_put sl_X7_put lq_7 rfl rfl k9 rfl ⟨Nat.le_of_ble_eq_true rfl, Nat.le_of_ble_eq_true rfl, Nat.le_of_ble_eq_true rfl, Nat.le_of_ble_eq_true rfl⟩ cs0 (Nat.le_of_ble_eq_true rfl) (con_X7_put a0 a5 2 a3 h2 _ hV) rfl (kV (k := 0) (n := 0) (fun h3 hV => ?_))
      refine r_aload_n hC dX7_order_186 rfl ?_
      refine r_iload hC dX7_order_187 rfl ?_
      refine r_iconst (v := 4) hC dX7_order_189 (by decide) ?_
      refine r_bipush (v := (-5)) hC dX7_order_190 (by decide) ?_
      obtain ⟨k9, hV⟩ := hV
      refine r_callV (ci := 7) (As := [.int a5, .int 4, .int (-5)]) hC dX7_order_192 rfl cf_X7_put ml_7_141 im_X7_put sl_X7_put lq_7 rfl rfl k9 rfl ⟨Nat.le_of_ble_eq_true rfl, Nat.le_of_ble_eq_true rfl, Nat.le_of_ble_eq_true rfl, Nat.le_of_ble_eq_true rfl⟩ cs0 (Nat.le_of_ble_eq_true rfl) (con_X7_put a0 a5 4 (-5) h3 _ hV) rfl (kV (k := 0) (n := 0) (fun h4 hV => ?_))
      refine r_aload_n hC dX7_order_195 rfl ?_
      refine r_iload hC dX7_order_196 rfl ?_
      refine r_iconst (v := 5) hC dX7_order_198 (by decide) ?_
      refine r_bipush (v := (-5)) hC dX7_order_199 (by decide) ?_
      obtain ⟨k9, hV⟩ := hV
      refine r_callV (ci := 7) (As := [.int a5, .int 5, .int (-5)]) hC dX7_order_201 rfl cf_X7_put ml_7_141 im_X7_put sl_X7_put lq_7 rfl rfl k9 rfl ⟨Nat.le_of_ble_eq_true rfl, Nat.le_of_ble_eq_true rfl, Nat.le_of_ble_eq_true rfl, Nat.le_of_ble_eq_true rfl⟩ cs0 (Nat.le_of_ble_eq_true rfl) (con_X7_put a0 a5 5 (-5) h4 _ hV) rfl (kV (k := 0) (n := 0) (fun h5 hV => ?_))
      refine r_aload_n hC dX7_order_204 rfl ?_
      refine r_iload hC dX7_order_205 rfl ?_
      refine r_bipush (v := 6) hC dX7_order_207 (by decide) ?_
      refine r_aload_n hC dX7_order_209 rfl ?_
      obtain ⟨k9, hV⟩ := hV
      refine r_getI hC dX7_order_210 fl_7_93 rf_7_5 lq_7 k9 ?_
      obtain ⟨k9, hV⟩ := hV
      refine r_callV (ci := 7) (As := [.int a5, .int 6, .int (hI h5 a0 5)]) hC dX7_order_213 rfl cf_X7_put ml_7_141 im_X7_put sl_X7_put lq_7 rfl rfl k9 rfl ⟨Nat.le_of_ble_eq_true rfl, Nat.le_of_ble_eq_true rfl, Nat.le_of_ble_eq_true rfl, Nat.le_of_ble_eq_true rfl⟩ cs0 (Nat.le_of_ble_eq_true rfl) (con_X7_put a0 a5 6 (hI h5 a0 5) h5 _ hV) rfl (kV (k := 0) (n := 0) (fun h6 hV => ?_))
      refine r_iconst (v := 0) hC dX7_order_216 (by decide) ?_
      refine r_istore (lo1 := [some (rv a0), some (.int a1), some (.int a2), some (.int a3), none, some (.int a5), some (.int 0)]) hC dX7_order_217 (Nat.le_of_ble_eq_true rfl) rfl ?_
      refine r_sub (lo1 := [some (rv a0), none, none, none, none, some (.int a5), some (.int 0)]) ⟨Or.inr rfl, ⟨Or.inl rfl, ⟨Or.inl rfl, ⟨Or.inl rfl, ⟨Or.inl rfl, ⟨Or.inr rfl, ⟨Or.inr rfl, trivial⟩⟩⟩⟩⟩⟩⟩ ?_
      obtain ⟨n9, hV⟩ := hV
      exact ok_X7_order_219 hC hQ n9 a0 a5 0 h6 hV
    · replace hV := hV.2 k9
      refine r_aload_n hC dX7_order_147 rfl ?_
      refine r_iload hC dX7_order_148 rfl ?_
      refine r_iload hC dX7_order_150 rfl ?_
      refine r_iconst (v := 0) hC dX7_order_152 (by decide) ?_
      obtain ⟨k9, hV⟩ := hV
      refine r_callV (ci := 7) (As := [.int a5, .int a6, .int 0]) hC dX7_order_153 rfl cf_X7_put ml_7_141 im_X7_put sl_X7_put lq_7 rfl rfl k9 rfl ⟨Nat.le_of_ble_eq_true rfl, Nat.le_of_ble_eq_true rfl, Nat.le_of_ble_eq_true rfl, Nat.le_of_ble_eq_true rfl⟩ cs0 (Nat.le_of_ble_eq_true rfl) (con_X7_put a0 a5 a6 0 h _ hV) rfl (kV (k := 0) (n := 0) (fun h1 hV => ?_))
      refine r_iinc (v := 1) (lo1 := [some (rv a0), some (.int a1), some (.int a2), some (.int a3), none, some (.int a5), some (.int (a6 + 1))]) hC dX7_order_156 rfl (by decide) rfl ?_
      refine r_goto (tgt := 139) hC dX7_order_159 (by decide) ?_
      exact ih a0 a1 a2 a3 a5 (a6 + 1) h1 hV
set_option maxRecDepth 100000 in
set_option maxHeartbeats 4000000 in
theorem ok_X7_order_66 {E : Ev} {X : Xt} {l0 : Launch} {K : Int32 → Hp → Prop} (hC : Cx E X l0 RX7 cX7_order 7 rm_X7_order) (hQ : CQ E X "order" (some .int) rm_X7_order (KI K)) : ∀ (n : Nat) (a0 : Nat) (a1 : Int32) (a2 : Int32) (a3 : Int32) (a5 : Int32) (h : Hp), V_X7_order_66 K n a0 a1 a2 a3 a5 h → WW E X h 0 0 66 [some (rv a0), some (.int a1), some (.int a2), some (.int a3), none, some (.int a5), none] [] := by
  intro n
  induction n with
  | zero => intro a0 a1 a2 a3 a5 h hV; exact hV.elim
  | succ n ih =>
    intro a0 a1 a2 a3 a5 h hV
    unfold V_X7_order_66 at hV
    refine r_iload hC dX7_order_66 rfl ?_
    refine r_aload_n hC dX7_order_68 rfl ?_
    obtain ⟨k9, hV⟩ := hV
    refine r_getI hC dX7_order_69 fl_7_93 rf_7_5 lq_7 k9 ?_
    refine r_icmp_ge (tgt := 95) hC dX7_order_72 (by decide) (fun k9 => ?_) (fun k9 => ?_)
    · replace hV := hV.1 k9
      refine r_aload_n hC dX7_order_95 rfl ?_
      refine r_iload_n hC dX7_order_96 rfl ?_
      obtain ⟨k9, hV⟩ := hV
      refine r_callV (ci := 7) (As := [.int a2]) hC dX7_order_97 rfl cf_X7_layLines ml_7_118 im_X7_layLines sl_X7_layLines lq_7 rfl rfl k9 rfl ⟨Nat.le_of_ble_eq_true rfl, Nat.le_of_ble_eq_true rfl, Nat.le_of_ble_eq_true rfl, Nat.le_of_ble_eq_true rfl⟩ cs0 (Nat.le_of_ble_eq_true rfl) (con_X7_layLines a0 a2 h _ hV) rfl (kV (k := 0) (n := 0) (fun h1 hV => ?_))
      refine r_aload_n hC dX7_order_100 rfl ?_
      obtain ⟨k9, hV⟩ := hV
      refine r_getI hC dX7_order_101 fl_7_102 rf_7_16 lq_7 k9 ?_
      refine r_if_eq (tgt := 110) hC dX7_order_104 (by decide) (fun k9 => ?_) (fun k9 => ?_)
      · replace hV := hV.1 k9
        refine r_aload_n hC dX7_order_110 rfl ?_
        obtain ⟨k9, hV⟩ := hV
        refine r_getR hC dX7_order_111 fl_7_7 rf_7_0 lq_7 k9 ?_
        refine r_iconst (v := 1) hC dX7_order_114 (by decide) ?_
        obtain ⟨k9, k8, hV⟩ := hV
        refine r_iald (kd := 60) hC dX7_order_115 (by decide) rfl k9 k8 ?_
        refine r_bipush (v := 12) hC dX7_order_116 (by decide) ?_
        refine r_icmp_ne (tgt := 124) hC dX7_order_118 (by decide) (fun k9 => ?_) (fun k9 => ?_)
        · replace hV := hV.1 k9
          refine r_aload_n hC dX7_order_124 rfl ?_
          obtain ⟨k9, hV⟩ := hV
          refine r_callV (ci := 7) (As := []) hC dX7_order_125 rfl cf_X7_record ml_7_65 im_X7_record sl_X7_record lq_7 rfl rfl k9 rfl ⟨Nat.le_of_ble_eq_true rfl, Nat.le_of_ble_eq_true rfl, Nat.le_of_ble_eq_true rfl, Nat.le_of_ble_eq_true rfl⟩ cs0 (Nat.le_of_ble_eq_true rfl) (con_X7_record a0 h1 _ hV) rfl (kV (k := 0) (n := 0) (fun h2 hV => ?_))
          refine r_aload_n hC dX7_order_128 rfl ?_
          obtain ⟨k9, hV⟩ := hV
          refine r_getR hC dX7_order_129 fl_7_7 rf_7_0 lq_7 k9 ?_
          refine r_iconst (v := 1) hC dX7_order_132 (by decide) ?_
          obtain ⟨k9, k8, hV⟩ := hV
          refine r_iald (kd := 60) hC dX7_order_133 (by decide) rfl k9 k8 ?_
          refine r_istore (lo1 := [some (rv a0), some (.int a1), some (.int a2), some (.int a3), none, some (.int (hI h2 (hR h2 a0 0) (ix 1))), none]) hC dX7_order_134 (Nat.le_of_ble_eq_true rfl) rfl ?_
          refine r_iconst (v := 0) hC dX7_order_136 (by decide) ?_
          refine r_istore (lo1 := [some (rv a0), some (.int a1), some (.int a2), some (.int a3), none, some (.int (hI h2 (hR h2 a0 0) (ix 1))), some (.int 0)]) hC dX7_order_137 (Nat.le_of_ble_eq_true rfl) rfl ?_
          obtain ⟨n9, hV⟩ := hV
          exact ok_X7_order_139 hC hQ n9 a0 a1 a2 a3 (hI h2 (hR h2 a0 0) (ix 1)) 0 h2 hV
        · replace hV := hV.2 k9
          refine r_bipush (v := (-3)) hC dX7_order_121 (by decide) ?_
          exact r_iret hC hQ dX7_order_123 (Nat.le_of_ble_eq_true rfl) (Nat.le_of_ble_eq_true rfl) ⟨_, rfl, hV⟩
      · replace hV := hV.2 k9
        refine r_bipush (v := (-4)) hC dX7_order_107 (by decide) ?_
        exact r_iret hC hQ dX7_order_109 (Nat.le_of_ble_eq_true rfl) (Nat.le_of_ble_eq_true rfl) ⟨_, rfl, hV⟩
    · replace hV := hV.2 k9
      refine r_aload_n hC dX7_order_75 rfl ?_
      obtain ⟨k9, hV⟩ := hV
      refine r_getR hC dX7_order_76 fl_7_22 rf_7_8 lq_7 k9 ?_
      refine r_iload hC dX7_order_79 rfl ?_
      refine r_aload_n hC dX7_order_81 rfl ?_
      obtain ⟨k9, hV⟩ := hV
      refine r_getR hC dX7_order_82 fl_7_19 rf_7_6 lq_7 k9 ?_
      refine r_iload hC dX7_order_85 rfl ?_
      obtain ⟨k9, k8, hV⟩ := hV
      refine r_iald (kd := 66) hC dX7_order_87 (by decide) rfl k9 k8 ?_
      obtain ⟨k9, k8, hV⟩ := hV
      refine r_iast (kd := 68) hC dX7_order_88 (by decide) rfl k9 k8 (nmH (fun h1 k9 => ?_))
      replace hV := hV h1 k9
      refine r_iinc (v := 1) (lo1 := [some (rv a0), some (.int a1), some (.int a2), some (.int a3), none, some (.int (a5 + 1)), none]) hC dX7_order_89 rfl (by decide) rfl ?_
      refine r_goto (tgt := 66) hC dX7_order_92 (by decide) ?_
      exact ih a0 a1 a2 a3 (a5 + 1) h1 hV
set_option maxRecDepth 100000 in
set_option maxHeartbeats 4000000 in
theorem ok_X7_order_0 {E : Ev} {X : Xt} {l0 : Launch} {K : Int32 → Hp → Prop} (hC : Cx E X l0 RX7 cX7_order 7 rm_X7_order) (hQ : CQ E X "order" (some .int) rm_X7_order (KI K)) (a0 : Nat) (a1 : Int32) (a2 : Int32) (a3 : Int32) (h : Hp) (hV : V_X7_order a0 a1 a2 a3 h K) : WW E X h 0 0 0 [some (rv a0), some (.int a1), some (.int a2), some (.int a3), none, none, none] [] := by
  unfold V_X7_order at hV
  refine r_aload_n hC dX7_order_0 rfl ?_
  refine r_iload_n hC dX7_order_1 rfl ?_
  obtain ⟨k9, hV⟩ := hV
  refine r_callV (ci := 7) (As := [.int a1]) hC dX7_order_2 rfl cf_X7_noCase ml_7_72 im_X7_noCase sl_X7_noCase lq_7 rfl rfl k9 rfl ⟨Nat.le_of_ble_eq_true rfl, Nat.le_of_ble_eq_true rfl, Nat.le_of_ble_eq_true rfl, Nat.le_of_ble_eq_true rfl⟩ cs0 (Nat.le_of_ble_eq_true rfl) (con_X7_noCase a0 a1 h _ hV) rfl (kI (k := 0) (n := 0) (fun r1 h1 hV => ?_))
  refine r_if_eq (tgt := 10) hC dX7_order_5 (by decide) (fun k9 => ?_) (fun k9 => ?_)
  · replace hV := hV.1 k9
    refine r_iload_n hC dX7_order_10 rfl ?_
    refine r_bipush (v := 10) hC dX7_order_11 (by decide) ?_
    refine r_sipush (v := 150) hC dX7_order_13 (by decide) ?_
    refine r_callS (As := [.int a2, .int 10, .int 150]) hC dX7_order_16 rfl cf_X7_in ml_7_56 st_X7_in rfl ⟨Nat.le_of_ble_eq_true rfl, Nat.le_of_ble_eq_true rfl, Nat.le_of_ble_eq_true rfl, Nat.le_of_ble_eq_true rfl⟩ cs0 (Nat.le_of_ble_eq_true rfl) (con_X7_in a2 10 150 h1 _ hV) rfl (kI (k := 0) (n := 0) (fun r2 h2 hV => ?_))
    refine r_if_eq (tgt := 33) hC dX7_order_19 (by decide) (fun k9 => ?_) (fun k9 => ?_)
    · replace hV := hV.1 k9
      refine r_sub (lo1 := [none, none, none, none, none, none, none]) ⟨Or.inl rfl, ⟨Or.inl rfl, ⟨Or.inl rfl, ⟨Or.inl rfl, ⟨Or.inl rfl, ⟨Or.inl rfl, ⟨Or.inl rfl, trivial⟩⟩⟩⟩⟩⟩⟩ ?_
      exact ok_X7_order_33 hC hQ  h2 hV
    · replace hV := hV.2 k9
      refine r_iload_n hC dX7_order_22 rfl ?_
      refine r_iconst (v := 0) hC dX7_order_23 (by decide) ?_
      refine r_sipush (v := 9999) hC dX7_order_24 (by decide) ?_
      refine r_callS (As := [.int a3, .int 0, .int 9999]) hC dX7_order_27 rfl cf_X7_in ml_7_56 st_X7_in rfl ⟨Nat.le_of_ble_eq_true rfl, Nat.le_of_ble_eq_true rfl, Nat.le_of_ble_eq_true rfl, Nat.le_of_ble_eq_true rfl⟩ cs0 (Nat.le_of_ble_eq_true rfl) (con_X7_in a3 0 9999 h2 _ hV) rfl (kI (k := 0) (n := 0) (fun r3 h3 hV => ?_))
      refine r_if_ne (tgt := 36) hC dX7_order_30 (by decide) (fun k9 => ?_) (fun k9 => ?_)
      · replace hV := hV.1 k9
        refine r_aload_n hC dX7_order_36 rfl ?_
        obtain ⟨k9, hV⟩ := hV
        refine r_callV (ci := 7) (As := []) hC dX7_order_37 rfl cf_X7_faultOf ml_7_138 im_X7_faultOf sl_X7_faultOf lq_7 rfl rfl k9 rfl ⟨Nat.le_of_ble_eq_true rfl, Nat.le_of_ble_eq_true rfl, Nat.le_of_ble_eq_true rfl, Nat.le_of_ble_eq_true rfl⟩ cs0 (Nat.le_of_ble_eq_true rfl) (con_X7_faultOf a0 h3 _ hV) rfl (kI (k := 0) (n := 0) (fun r4 h4 hV => ?_))
        refine r_istore (lo1 := [some (rv a0), some (.int a1), some (.int a2), some (.int a3), some (.int r4), none, none]) hC dX7_order_40 (Nat.le_of_ble_eq_true rfl) rfl ?_
        refine r_iload hC dX7_order_42 rfl ?_
        refine r_bipush (v := (-5)) hC dX7_order_44 (by decide) ?_
        refine r_icmp_eq (tgt := 55) hC dX7_order_46 (by decide) (fun k9 => ?_) (fun k9 => ?_)
        · replace hV := hV.1 k9
          refine r_aload_n hC dX7_order_55 rfl ?_
          refine r_aload_n hC dX7_order_56 rfl ?_
          obtain ⟨k9, hV⟩ := hV
          refine r_getI hC dX7_order_57 fl_7_93 rf_7_5 lq_7 k9 ?_
          obtain ⟨k9, hV⟩ := hV
          refine r_putI hC dX7_order_60 fl_7_112 ft_7 rfl rf_7_7 ty_7_7 lq_7 k9 (nmH (fun h5 k9 => ?_))
          replace hV := hV h5 k9
          refine r_iconst (v := 0) hC dX7_order_63 (by decide) ?_
          refine r_istore (lo1 := [some (rv a0), some (.int a1), some (.int a2), some (.int a3), some (.int r4), some (.int 0), none]) hC dX7_order_64 (Nat.le_of_ble_eq_true rfl) rfl ?_
          refine r_sub (lo1 := [some (rv a0), some (.int a1), some (.int a2), some (.int a3), none, some (.int 0), none]) ⟨Or.inr rfl, ⟨Or.inr rfl, ⟨Or.inr rfl, ⟨Or.inr rfl, ⟨Or.inl rfl, ⟨Or.inr rfl, ⟨Or.inl rfl, trivial⟩⟩⟩⟩⟩⟩⟩ ?_
          obtain ⟨n9, hV⟩ := hV
          exact ok_X7_order_66 hC hQ n9 a0 a1 a2 a3 0 h5 hV
        · replace hV := hV.2 k9
          refine r_bipush (v := (-100)) hC dX7_order_49 (by decide) ?_
          refine r_iload hC dX7_order_51 rfl ?_
          refine r_isub hC dX7_order_53 ?_
          exact r_iret hC hQ dX7_order_54 (Nat.le_of_ble_eq_true rfl) (Nat.le_of_ble_eq_true rfl) ⟨_, rfl, hV⟩
      · replace hV := hV.2 k9
        refine r_sub (lo1 := [none, none, none, none, none, none, none]) ⟨Or.inl rfl, ⟨Or.inl rfl, ⟨Or.inl rfl, ⟨Or.inl rfl, ⟨Or.inl rfl, ⟨Or.inl rfl, ⟨Or.inl rfl, trivial⟩⟩⟩⟩⟩⟩⟩ ?_
        exact ok_X7_order_33 hC hQ  h3 hV
  · replace hV := hV.2 k9
    refine r_iconst (v := (-1)) hC dX7_order_8 (by decide) ?_
    exact r_iret hC hQ dX7_order_9 (Nat.le_of_ble_eq_true rfl) (Nat.le_of_ble_eq_true rfl) ⟨_, rfl, hV⟩
set_option maxRecDepth 100000 in
set_option maxHeartbeats 4000000 in
theorem con_X7_order {E : Ev} {l0 : Launch} (a0 : Nat) (a1 : Int32) (a2 : Int32) (a3 : Int32) (h : Hp) (K : Int32 → Hp → Prop) (hV : V_X7_order a0 a1 a2 a3 h K) : Con E l0 yX7_order cX7_order 7 (some .int) rm_X7_order [rv a0, .int a1, .int a2, .int a3] h (KI K) := by
  refine Con.of (by decide +kernel) (cat_R (cat_I (cat_I (cat_I cat_nil)))) (Nat.le_of_ble_eq_true rfl) (fun X hC hQ => ?_)
  refine r_sub (lo1 := [some (rv a0), some (.int a1), some (.int a2), some (.int a3), none, none, none]) (show lsub [some (rv a0), some (.int a1), some (.int a2), some (.int a3), none, none, none] _ from ⟨Or.inr rfl, ⟨Or.inr rfl, ⟨Or.inr rfl, ⟨Or.inr rfl, ⟨Or.inr rfl, ⟨Or.inr rfl, ⟨Or.inr rfl, trivial⟩⟩⟩⟩⟩⟩⟩) ?_
  exact ok_X7_order_0 hC hQ a0 a1 a2 a3 h hV
theorem dX7_pass_0 : decode cX7_pass 0 = .ok (.iload_n 1, 1) := by decide +kernel
theorem dX7_pass_1 : decode cX7_pass 1 = .ok (.iconst 1, 1) := by decide +kernel
theorem dX7_pass_2 : decode cX7_pass 2 = .ok (.bipush 30, 2) := by decide +kernel
theorem dX7_pass_4 : decode cX7_pass 4 = .ok (.invokestatic 56, 3) := by decide +kernel
theorem dX7_pass_7 : decode cX7_pass 7 = .ok (.ifCond .ne 6, 3) := by decide +kernel
theorem dX7_pass_10 : decode cX7_pass 10 = .ok (.bipush (-2), 2) := by decide +kernel
theorem dX7_pass_12 : decode cX7_pass 12 = .ok (.ireturn, 1) := by decide +kernel
theorem dX7_pass_13 : decode cX7_pass 13 = .ok (.aload_n 0, 1) := by decide +kernel
theorem dX7_pass_14 : decode cX7_pass 14 = .ok (.invokevirtual 65, 3) := by decide +kernel
theorem dX7_pass_17 : decode cX7_pass 17 = .ok (.aload_n 0, 1) := by decide +kernel
theorem dX7_pass_18 : decode cX7_pass 18 = .ok (.getfield 7, 3) := by decide +kernel
theorem dX7_pass_21 : decode cX7_pass 21 = .ok (.iconst 3, 1) := by decide +kernel
theorem dX7_pass_22 : decode cX7_pass 22 = .ok (.dup2, 1) := by decide +kernel
theorem dX7_pass_23 : decode cX7_pass 23 = .ok (.iaload, 1) := by decide +kernel
theorem dX7_pass_24 : decode cX7_pass 24 = .ok (.iload_n 1, 1) := by decide +kernel
theorem dX7_pass_25 : decode cX7_pass 25 = .ok (.iadd, 1) := by decide +kernel
theorem dX7_pass_26 : decode cX7_pass 26 = .ok (.iastore, 1) := by decide +kernel
theorem dX7_pass_27 : decode cX7_pass 27 = .ok (.aload_n 0, 1) := by decide +kernel
theorem dX7_pass_28 : decode cX7_pass 28 = .ok (.getfield 7, 3) := by decide +kernel
theorem dX7_pass_31 : decode cX7_pass 31 = .ok (.iconst 3, 1) := by decide +kernel
theorem dX7_pass_32 : decode cX7_pass 32 = .ok (.iaload, 1) := by decide +kernel
theorem dX7_pass_33 : decode cX7_pass 33 = .ok (.ireturn, 1) := by decide +kernel
def rm_X7_pass : Room := { frames := 1, cells := 0, slots := 0, locals := 22 }
set_option maxRecDepth 100000 in
set_option maxHeartbeats 4000000 in
theorem ok_X7_pass_0 {E : Ev} {X : Xt} {l0 : Launch} {K : Int32 → Hp → Prop} (hC : Cx E X l0 RX7 cX7_pass 2 rm_X7_pass) (hQ : CQ E X "pass" (some .int) rm_X7_pass (KI K)) (a0 : Nat) (a1 : Int32) (h : Hp) (hV : V_X7_pass a0 a1 h K) : WW E X h 0 0 0 [some (rv a0), some (.int a1)] [] := by
  unfold V_X7_pass at hV
  refine r_iload_n hC dX7_pass_0 rfl ?_
  refine r_iconst (v := 1) hC dX7_pass_1 (by decide) ?_
  refine r_bipush (v := 30) hC dX7_pass_2 (by decide) ?_
  refine r_callS (As := [.int a1, .int 1, .int 30]) hC dX7_pass_4 rfl cf_X7_in ml_7_56 st_X7_in rfl ⟨Nat.le_of_ble_eq_true rfl, Nat.le_of_ble_eq_true rfl, Nat.le_of_ble_eq_true rfl, Nat.le_of_ble_eq_true rfl⟩ cs0 (Nat.le_of_ble_eq_true rfl) (con_X7_in a1 1 30 h _ hV) rfl (kI (k := 0) (n := 0) (fun r1 h1 hV => ?_))
  refine r_if_ne (tgt := 13) hC dX7_pass_7 (by decide) (fun k9 => ?_) (fun k9 => ?_)
  · replace hV := hV.1 k9
    refine r_aload_n hC dX7_pass_13 rfl ?_
    obtain ⟨k9, hV⟩ := hV
    refine r_callV (ci := 7) (As := []) hC dX7_pass_14 rfl cf_X7_record ml_7_65 im_X7_record sl_X7_record lq_7 rfl rfl k9 rfl ⟨Nat.le_of_ble_eq_true rfl, Nat.le_of_ble_eq_true rfl, Nat.le_of_ble_eq_true rfl, Nat.le_of_ble_eq_true rfl⟩ cs0 (Nat.le_of_ble_eq_true rfl) (con_X7_record a0 h1 _ hV) rfl (kV (k := 0) (n := 0) (fun h2 hV => ?_))
    refine r_aload_n hC dX7_pass_17 rfl ?_
    obtain ⟨k9, hV⟩ := hV
    refine r_getR hC dX7_pass_18 fl_7_7 rf_7_0 lq_7 k9 ?_
    refine r_iconst (v := 3) hC dX7_pass_21 (by decide) ?_
    refine r_dup2 hC dX7_pass_22 rfl (rv_cat _) ?_
    obtain ⟨k9, k8, hV⟩ := hV
    refine r_iald (kd := 60) hC dX7_pass_23 (by decide) rfl k9 k8 ?_
    refine r_iload_n hC dX7_pass_24 rfl ?_
    refine r_iadd hC dX7_pass_25 ?_
    obtain ⟨k9, k8, hV⟩ := hV
    refine r_iast (kd := 60) hC dX7_pass_26 (by decide) rfl k9 k8 (nmH (fun h3 k9 => ?_))
    replace hV := hV h3 k9
    refine r_aload_n hC dX7_pass_27 rfl ?_
    obtain ⟨k9, hV⟩ := hV
    refine r_getR hC dX7_pass_28 fl_7_7 rf_7_0 lq_7 k9 ?_
    refine r_iconst (v := 3) hC dX7_pass_31 (by decide) ?_
    obtain ⟨k9, k8, hV⟩ := hV
    refine r_iald (kd := 60) hC dX7_pass_32 (by decide) rfl k9 k8 ?_
    exact r_iret hC hQ dX7_pass_33 (Nat.le_of_ble_eq_true rfl) (Nat.le_of_ble_eq_true rfl) ⟨_, rfl, hV⟩
  · replace hV := hV.2 k9
    refine r_bipush (v := (-2)) hC dX7_pass_10 (by decide) ?_
    exact r_iret hC hQ dX7_pass_12 (Nat.le_of_ble_eq_true rfl) (Nat.le_of_ble_eq_true rfl) ⟨_, rfl, hV⟩
set_option maxRecDepth 100000 in
set_option maxHeartbeats 4000000 in
theorem con_X7_pass {E : Ev} {l0 : Launch} (a0 : Nat) (a1 : Int32) (h : Hp) (K : Int32 → Hp → Prop) (hV : V_X7_pass a0 a1 h K) : Con E l0 yX7_pass cX7_pass 2 (some .int) rm_X7_pass [rv a0, .int a1] h (KI K) := by
  refine Con.of (by decide +kernel) (cat_R (cat_I cat_nil)) (Nat.le_of_ble_eq_true rfl) (fun X hC hQ => ?_)
  refine r_sub (lo1 := [some (rv a0), some (.int a1)]) (show lsub [some (rv a0), some (.int a1)] _ from ⟨Or.inr rfl, ⟨Or.inr rfl, trivial⟩⟩) ?_
  exact ok_X7_pass_0 hC hQ a0 a1 h hV
theorem dX7_spaces_0 : decode cX7_spaces 0 = .ok (.iload_n 0, 1) := by decide +kernel
theorem dX7_spaces_1 : decode cX7_spaces 1 = .ok (.ldc 156, 2) := by decide +kernel
theorem dX7_spaces_3 : decode cX7_spaces 3 = .ok (.idiv, 1) := by decide +kernel
theorem dX7_spaces_4 : decode cX7_spaces 4 = .ok (.iload_n 0, 1) := by decide +kernel
theorem dX7_spaces_5 : decode cX7_spaces 5 = .ok (.sipush 1000, 3) := by decide +kernel
theorem dX7_spaces_8 : decode cX7_spaces 8 = .ok (.idiv, 1) := by decide +kernel
theorem dX7_spaces_9 : decode cX7_spaces 9 = .ok (.sipush 1000, 3) := by decide +kernel
theorem dX7_spaces_12 : decode cX7_spaces 12 = .ok (.irem, 1) := by decide +kernel
theorem dX7_spaces_13 : decode cX7_spaces 13 = .ok (.iadd, 1) := by decide +kernel
theorem dX7_spaces_14 : decode cX7_spaces 14 = .ok (.iload_n 0, 1) := by decide +kernel
theorem dX7_spaces_15 : decode cX7_spaces 15 = .ok (.sipush 1000, 3) := by decide +kernel
theorem dX7_spaces_18 : decode cX7_spaces 18 = .ok (.irem, 1) := by decide +kernel
theorem dX7_spaces_19 : decode cX7_spaces 19 = .ok (.iadd, 1) := by decide +kernel
theorem dX7_spaces_20 : decode cX7_spaces 20 = .ok (.ireturn, 1) := by decide +kernel
def rm_X7_spaces : Room := { frames := 0, cells := 0, slots := 0, locals := 0 }
set_option maxRecDepth 100000 in
set_option maxHeartbeats 4000000 in
theorem ok_X7_spaces_0 {E : Ev} {X : Xt} {l0 : Launch} {K : Int32 → Hp → Prop} (hC : Cx E X l0 RX7 cX7_spaces 1 rm_X7_spaces) (hQ : CQ E X "spaces" (some .int) rm_X7_spaces (KI K)) (a0 : Int32) (h : Hp) (hV : V_X7_spaces a0 h K) : WW E X h 0 0 0 [some (.int a0)] [] := by
  unfold V_X7_spaces at hV
  refine r_iload_n hC dX7_spaces_0 rfl ?_
  refine r_ldc (v := 1000000) hC dX7_spaces_1 kc_7_156 ?_
  refine r_idiv hC dX7_spaces_3 (by decide) ?_
  refine r_iload_n hC dX7_spaces_4 rfl ?_
  refine r_sipush (v := 1000) hC dX7_spaces_5 (by decide) ?_
  refine r_idiv hC dX7_spaces_8 (by decide) ?_
  refine r_sipush (v := 1000) hC dX7_spaces_9 (by decide) ?_
  refine r_irem hC dX7_spaces_12 (by decide) ?_
  refine r_iadd hC dX7_spaces_13 ?_
  refine r_iload_n hC dX7_spaces_14 rfl ?_
  refine r_sipush (v := 1000) hC dX7_spaces_15 (by decide) ?_
  refine r_irem hC dX7_spaces_18 (by decide) ?_
  refine r_iadd hC dX7_spaces_19 ?_
  exact r_iret hC hQ dX7_spaces_20 (Nat.le_of_ble_eq_true rfl) (Nat.le_of_ble_eq_true rfl) ⟨_, rfl, hV⟩
set_option maxRecDepth 100000 in
set_option maxHeartbeats 4000000 in
theorem con_X7_spaces {E : Ev} {l0 : Launch} (a0 : Int32) (h : Hp) (K : Int32 → Hp → Prop) (hV : V_X7_spaces a0 h K) : Con E l0 yX7_spaces cX7_spaces 1 (some .int) rm_X7_spaces [.int a0] h (KI K) := by
  refine Con.of (by decide +kernel) (cat_I cat_nil) (Nat.le_of_ble_eq_true rfl) (fun X hC hQ => ?_)
  refine r_sub (lo1 := [some (.int a0)]) (show lsub [some (.int a0)] _ from ⟨Or.inr rfl, trivial⟩) ?_
  exact ok_X7_spaces_0 hC hQ a0 h hV
theorem dX7_spaceAt_0 : decode cX7_spaceAt 0 = .ok (.iload_n 1, 1) := by decide +kernel
theorem dX7_spaceAt_1 : decode cX7_spaceAt 1 = .ok (.ldc 156, 2) := by decide +kernel
theorem dX7_spaceAt_3 : decode cX7_spaceAt 3 = .ok (.idiv, 1) := by decide +kernel
theorem dX7_spaceAt_4 : decode cX7_spaceAt 4 = .ok (.istore_n 3, 1) := by decide +kernel
theorem dX7_spaceAt_5 : decode cX7_spaceAt 5 = .ok (.iload_n 1, 1) := by decide +kernel
theorem dX7_spaceAt_6 : decode cX7_spaceAt 6 = .ok (.sipush 1000, 3) := by decide +kernel
theorem dX7_spaceAt_9 : decode cX7_spaceAt 9 = .ok (.idiv, 1) := by decide +kernel
theorem dX7_spaceAt_10 : decode cX7_spaceAt 10 = .ok (.sipush 1000, 3) := by decide +kernel
theorem dX7_spaceAt_13 : decode cX7_spaceAt 13 = .ok (.irem, 1) := by decide +kernel
theorem dX7_spaceAt_14 : decode cX7_spaceAt 14 = .ok (.istore 4, 2) := by decide +kernel
theorem dX7_spaceAt_16 : decode cX7_spaceAt 16 = .ok (.iload_n 1, 1) := by decide +kernel
theorem dX7_spaceAt_17 : decode cX7_spaceAt 17 = .ok (.sipush 1000, 3) := by decide +kernel
theorem dX7_spaceAt_20 : decode cX7_spaceAt 20 = .ok (.irem, 1) := by decide +kernel
theorem dX7_spaceAt_21 : decode cX7_spaceAt 21 = .ok (.istore 5, 2) := by decide +kernel
theorem dX7_spaceAt_23 : decode cX7_spaceAt 23 = .ok (.iload_n 2, 1) := by decide +kernel
theorem dX7_spaceAt_24 : decode cX7_spaceAt 24 = .ok (.iload_n 3, 1) := by decide +kernel
theorem dX7_spaceAt_25 : decode cX7_spaceAt 25 = .ok (.if_icmp .ge 8, 3) := by decide +kernel
theorem dX7_spaceAt_28 : decode cX7_spaceAt 28 = .ok (.bipush 52, 2) := by decide +kernel
theorem dX7_spaceAt_30 : decode cX7_spaceAt 30 = .ok (.goto 34, 3) := by decide +kernel
theorem dX7_spaceAt_33 : decode cX7_spaceAt 33 = .ok (.iload_n 2, 1) := by decide +kernel
theorem dX7_spaceAt_34 : decode cX7_spaceAt 34 = .ok (.iload_n 3, 1) := by decide +kernel
theorem dX7_spaceAt_35 : decode cX7_spaceAt 35 = .ok (.iload 4, 2) := by decide +kernel
theorem dX7_spaceAt_37 : decode cX7_spaceAt 37 = .ok (.iadd, 1) := by decide +kernel
theorem dX7_spaceAt_38 : decode cX7_spaceAt 38 = .ok (.if_icmp .ge 8, 3) := by decide +kernel
theorem dX7_spaceAt_41 : decode cX7_spaceAt 41 = .ok (.bipush 50, 2) := by decide +kernel
theorem dX7_spaceAt_43 : decode cX7_spaceAt 43 = .ok (.goto 21, 3) := by decide +kernel
theorem dX7_spaceAt_46 : decode cX7_spaceAt 46 = .ok (.iload_n 2, 1) := by decide +kernel
theorem dX7_spaceAt_47 : decode cX7_spaceAt 47 = .ok (.iload_n 3, 1) := by decide +kernel
theorem dX7_spaceAt_48 : decode cX7_spaceAt 48 = .ok (.iload 4, 2) := by decide +kernel
theorem dX7_spaceAt_50 : decode cX7_spaceAt 50 = .ok (.iadd, 1) := by decide +kernel
theorem dX7_spaceAt_51 : decode cX7_spaceAt 51 = .ok (.iload 5, 2) := by decide +kernel
theorem dX7_spaceAt_53 : decode cX7_spaceAt 53 = .ok (.iadd, 1) := by decide +kernel
theorem dX7_spaceAt_54 : decode cX7_spaceAt 54 = .ok (.if_icmp .ge 8, 3) := by decide +kernel
theorem dX7_spaceAt_57 : decode cX7_spaceAt 57 = .ok (.bipush 49, 2) := by decide +kernel
theorem dX7_spaceAt_59 : decode cX7_spaceAt 59 = .ok (.goto 5, 3) := by decide +kernel
theorem dX7_spaceAt_62 : decode cX7_spaceAt 62 = .ok (.bipush (-5), 2) := by decide +kernel
theorem dX7_spaceAt_64 : decode cX7_spaceAt 64 = .ok (.ireturn, 1) := by decide +kernel
def rm_X7_spaceAt : Room := { frames := 0, cells := 0, slots := 0, locals := 0 }
set_option maxRecDepth 100000 in
set_option maxHeartbeats 4000000 in
theorem ok_X7_spaceAt_64 {E : Ev} {X : Xt} {l0 : Launch} {K : Int32 → Hp → Prop} (hC : Cx E X l0 RX7 cX7_spaceAt 6 rm_X7_spaceAt) (hQ : CQ E X "spaceAt" (some .int) rm_X7_spaceAt (KI K)) (s0 : Int32) (h : Hp) (hV : V_X7_spaceAt_64 K s0 h) : WW E X h 0 0 64 [none, none, none, none, none, none] [.int s0] := by
  unfold V_X7_spaceAt_64 at hV
  exact r_iret hC hQ dX7_spaceAt_64 (Nat.le_of_ble_eq_true rfl) (Nat.le_of_ble_eq_true rfl) ⟨_, rfl, hV⟩
set_option maxRecDepth 100000 in
set_option maxHeartbeats 4000000 in
theorem ok_X7_spaceAt_0 {E : Ev} {X : Xt} {l0 : Launch} {K : Int32 → Hp → Prop} (hC : Cx E X l0 RX7 cX7_spaceAt 6 rm_X7_spaceAt) (hQ : CQ E X "spaceAt" (some .int) rm_X7_spaceAt (KI K)) (a0 : Nat) (a1 : Int32) (a2 : Int32) (h : Hp) (hV : V_X7_spaceAt a0 a1 a2 h K) : WW E X h 0 0 0 [none, some (.int a1), some (.int a2), none, none, none] [] := by
  unfold V_X7_spaceAt at hV
  refine r_iload_n hC dX7_spaceAt_0 rfl ?_
  refine r_ldc (v := 1000000) hC dX7_spaceAt_1 kc_7_156 ?_
  refine r_idiv hC dX7_spaceAt_3 (by decide) ?_
  refine r_istore_n (lo1 := [none, some (.int a1), some (.int a2), some (.int (a1 / 1000000)), none, none]) hC dX7_spaceAt_4 (Nat.le_of_ble_eq_true rfl) rfl ?_
  refine r_iload_n hC dX7_spaceAt_5 rfl ?_
  refine r_sipush (v := 1000) hC dX7_spaceAt_6 (by decide) ?_
  refine r_idiv hC dX7_spaceAt_9 (by decide) ?_
  refine r_sipush (v := 1000) hC dX7_spaceAt_10 (by decide) ?_
  refine r_irem hC dX7_spaceAt_13 (by decide) ?_
  refine r_istore (lo1 := [none, some (.int a1), some (.int a2), some (.int (a1 / 1000000)), some (.int ((a1 / 1000) - (a1 / 1000) / 1000 * 1000)), none]) hC dX7_spaceAt_14 (Nat.le_of_ble_eq_true rfl) rfl ?_
  refine r_iload_n hC dX7_spaceAt_16 rfl ?_
  refine r_sipush (v := 1000) hC dX7_spaceAt_17 (by decide) ?_
  refine r_irem hC dX7_spaceAt_20 (by decide) ?_
  refine r_istore (lo1 := [none, some (.int a1), some (.int a2), some (.int (a1 / 1000000)), some (.int ((a1 / 1000) - (a1 / 1000) / 1000 * 1000)), some (.int (a1 - a1 / 1000 * 1000))]) hC dX7_spaceAt_21 (Nat.le_of_ble_eq_true rfl) rfl ?_
  refine r_iload_n hC dX7_spaceAt_23 rfl ?_
  refine r_iload_n hC dX7_spaceAt_24 rfl ?_
  refine r_icmp_ge (tgt := 33) hC dX7_spaceAt_25 (by decide) (fun k9 => ?_) (fun k9 => ?_)
  · replace hV := hV.1 k9
    refine r_iload_n hC dX7_spaceAt_33 rfl ?_
    refine r_iload_n hC dX7_spaceAt_34 rfl ?_
    refine r_iload hC dX7_spaceAt_35 rfl ?_
    refine r_iadd hC dX7_spaceAt_37 ?_
    refine r_icmp_ge (tgt := 46) hC dX7_spaceAt_38 (by decide) (fun k9 => ?_) (fun k9 => ?_)
    · replace hV := hV.1 k9
      refine r_iload_n hC dX7_spaceAt_46 rfl ?_
      refine r_iload_n hC dX7_spaceAt_47 rfl ?_
      refine r_iload hC dX7_spaceAt_48 rfl ?_
      refine r_iadd hC dX7_spaceAt_50 ?_
      refine r_iload hC dX7_spaceAt_51 rfl ?_
      refine r_iadd hC dX7_spaceAt_53 ?_
      refine r_icmp_ge (tgt := 62) hC dX7_spaceAt_54 (by decide) (fun k9 => ?_) (fun k9 => ?_)
      · replace hV := hV.1 k9
        refine r_bipush (v := (-5)) hC dX7_spaceAt_62 (by decide) ?_
        refine r_sub (lo1 := [none, none, none, none, none, none]) ⟨Or.inl rfl, ⟨Or.inl rfl, ⟨Or.inl rfl, ⟨Or.inl rfl, ⟨Or.inl rfl, ⟨Or.inl rfl, trivial⟩⟩⟩⟩⟩⟩ ?_
        exact ok_X7_spaceAt_64 hC hQ (-5) h hV
      · replace hV := hV.2 k9
        refine r_bipush (v := 49) hC dX7_spaceAt_57 (by decide) ?_
        refine r_goto (tgt := 64) hC dX7_spaceAt_59 (by decide) ?_
        refine r_sub (lo1 := [none, none, none, none, none, none]) ⟨Or.inl rfl, ⟨Or.inl rfl, ⟨Or.inl rfl, ⟨Or.inl rfl, ⟨Or.inl rfl, ⟨Or.inl rfl, trivial⟩⟩⟩⟩⟩⟩ ?_
        exact ok_X7_spaceAt_64 hC hQ 49 h hV
    · replace hV := hV.2 k9
      refine r_bipush (v := 50) hC dX7_spaceAt_41 (by decide) ?_
      refine r_goto (tgt := 64) hC dX7_spaceAt_43 (by decide) ?_
      refine r_sub (lo1 := [none, none, none, none, none, none]) ⟨Or.inl rfl, ⟨Or.inl rfl, ⟨Or.inl rfl, ⟨Or.inl rfl, ⟨Or.inl rfl, ⟨Or.inl rfl, trivial⟩⟩⟩⟩⟩⟩ ?_
      exact ok_X7_spaceAt_64 hC hQ 50 h hV
  · replace hV := hV.2 k9
    refine r_bipush (v := 52) hC dX7_spaceAt_28 (by decide) ?_
    refine r_goto (tgt := 64) hC dX7_spaceAt_30 (by decide) ?_
    refine r_sub (lo1 := [none, none, none, none, none, none]) ⟨Or.inl rfl, ⟨Or.inl rfl, ⟨Or.inl rfl, ⟨Or.inl rfl, ⟨Or.inl rfl, ⟨Or.inl rfl, trivial⟩⟩⟩⟩⟩⟩ ?_
    exact ok_X7_spaceAt_64 hC hQ 52 h hV
set_option maxRecDepth 100000 in
set_option maxHeartbeats 4000000 in
theorem con_X7_spaceAt {E : Ev} {l0 : Launch} (a0 : Nat) (a1 : Int32) (a2 : Int32) (h : Hp) (K : Int32 → Hp → Prop) (hV : V_X7_spaceAt a0 a1 a2 h K) : Con E l0 yX7_spaceAt cX7_spaceAt 6 (some .int) rm_X7_spaceAt [rv a0, .int a1, .int a2] h (KI K) := by
  refine Con.of (by decide +kernel) (cat_R (cat_I (cat_I cat_nil))) (Nat.le_of_ble_eq_true rfl) (fun X hC hQ => ?_)
  refine r_sub (lo1 := [none, some (.int a1), some (.int a2), none, none, none]) (show lsub [some (rv a0), some (.int a1), some (.int a2), none, none, none] _ from ⟨Or.inl rfl, ⟨Or.inr rfl, ⟨Or.inr rfl, ⟨Or.inr rfl, ⟨Or.inr rfl, ⟨Or.inr rfl, trivial⟩⟩⟩⟩⟩⟩) ?_
  exact ok_X7_spaceAt_0 hC hQ a0 a1 a2 h hV
