theorem dX4_pieceCount_0 : decode cX4_pieceCount 0 = .ok (.aload_n 0, 1) := by decide +kernel
theorem dX4_pieceCount_1 : decode cX4_pieceCount 1 = .ok (.getfield 16, 3) := by decide +kernel
theorem dX4_pieceCount_4 : decode cX4_pieceCount 4 = .ok (.aload_n 0, 1) := by decide +kernel
theorem dX4_pieceCount_5 : decode cX4_pieceCount 5 = .ok (.getfield 19, 3) := by decide +kernel
theorem dX4_pieceCount_8 : decode cX4_pieceCount 8 = .ok (.iadd, 1) := by decide +kernel
theorem dX4_pieceCount_9 : decode cX4_pieceCount 9 = .ok (.aload_n 0, 1) := by decide +kernel
theorem dX4_pieceCount_10 : decode cX4_pieceCount 10 = .ok (.getfield 22, 3) := by decide +kernel
theorem dX4_pieceCount_13 : decode cX4_pieceCount 13 = .ok (.iadd, 1) := by decide +kernel
theorem dX4_pieceCount_14 : decode cX4_pieceCount 14 = .ok (.ireturn, 1) := by decide +kernel
def rm_X4_pieceCount : Room := { frames := 0, cells := 0, slots := 0, locals := 0 }
set_option maxRecDepth 100000 in
set_option maxHeartbeats 4000000 in
theorem ok_X4_pieceCount_0 {E : Ev} {X : Xt} {l0 : Launch} {K : Int32 → Hp → Prop} (hC : Cx E X l0 RX4 cX4_pieceCount 1 rm_X4_pieceCount) (hQ : CQ E X "pieceCount" (some .int) rm_X4_pieceCount (KI K)) (a0 : Nat) (h : Hp) (hV : V_X4_pieceCount a0 h K) : WW E X h 0 0 0 [some (rv a0)] [] := by
  unfold V_X4_pieceCount at hV
  refine r_aload_n hC dX4_pieceCount_0 rfl ?_
  obtain ⟨k9, hV⟩ := hV
  refine r_getI hC dX4_pieceCount_1 fl_4_16 rf_4_2 lq_4 k9 ?_
  refine r_aload_n hC dX4_pieceCount_4 rfl ?_
  obtain ⟨k9, hV⟩ := hV
  refine r_getI hC dX4_pieceCount_5 fl_4_19 rf_4_3 lq_4 k9 ?_
  refine r_iadd hC dX4_pieceCount_8 ?_
  refine r_aload_n hC dX4_pieceCount_9 rfl ?_
  obtain ⟨k9, hV⟩ := hV
  refine r_getI hC dX4_pieceCount_10 fl_4_22 rf_4_4 lq_4 k9 ?_
  refine r_iadd hC dX4_pieceCount_13 ?_
  exact r_iret hC hQ dX4_pieceCount_14 (Nat.le_of_ble_eq_true rfl) (Nat.le_of_ble_eq_true rfl) ⟨_, rfl, hV⟩
set_option maxRecDepth 100000 in
set_option maxHeartbeats 4000000 in
theorem con_X4_pieceCount {E : Ev} {l0 : Launch} (a0 : Nat) (h : Hp) (K : Int32 → Hp → Prop) (hV : V_X4_pieceCount a0 h K) : Con E l0 yX4_pieceCount cX4_pieceCount 1 (some .int) rm_X4_pieceCount [rv a0] h (KI K) := by
  refine Con.of (by decide +kernel) (cat_R cat_nil) (Nat.le_of_ble_eq_true rfl) (fun X hC hQ => ?_)
  refine r_sub (lo1 := [some (rv a0)]) (show lsub [some (rv a0)] _ from ⟨Or.inr rfl, trivial⟩) ?_
  exact ok_X4_pieceCount_0 hC hQ a0 h hV
theorem dX5_findJob_0 : decode cX5_findJob 0 = .ok (.iload_n 1, 1) := by decide +kernel
theorem dX5_findJob_1 : decode cX5_findJob 1 = .ok (.ifCond .lt 26, 3) := by decide +kernel
theorem dX5_findJob_4 : decode cX5_findJob 4 = .ok (.iload_n 1, 1) := by decide +kernel
theorem dX5_findJob_5 : decode cX5_findJob 5 = .ok (.aload_n 0, 1) := by decide +kernel
theorem dX5_findJob_6 : decode cX5_findJob 6 = .ok (.getfield 28, 3) := by decide +kernel
theorem dX5_findJob_9 : decode cX5_findJob 9 = .ok (.if_icmp .ge 18, 3) := by decide +kernel
theorem dX5_findJob_12 : decode cX5_findJob 12 = .ok (.iload_n 1, 1) := by decide +kernel
theorem dX5_findJob_13 : decode cX5_findJob 13 = .ok (.bipush 12, 2) := by decide +kernel
theorem dX5_findJob_15 : decode cX5_findJob 15 = .ok (.if_icmp .ge 12, 3) := by decide +kernel
theorem dX5_findJob_18 : decode cX5_findJob 18 = .ok (.aload_n 0, 1) := by decide +kernel
theorem dX5_findJob_19 : decode cX5_findJob 19 = .ok (.getfield 20, 3) := by decide +kernel
theorem dX5_findJob_22 : decode cX5_findJob 22 = .ok (.iload_n 1, 1) := by decide +kernel
theorem dX5_findJob_23 : decode cX5_findJob 23 = .ok (.aaload, 1) := by decide +kernel
theorem dX5_findJob_24 : decode cX5_findJob 24 = .ok (.goto 4, 3) := by decide +kernel
theorem dX5_findJob_27 : decode cX5_findJob 27 = .ok (.aconst_null, 1) := by decide +kernel
theorem dX5_findJob_28 : decode cX5_findJob 28 = .ok (.areturn, 1) := by decide +kernel
def rm_X5_findJob : Room := { frames := 0, cells := 0, slots := 0, locals := 0 }
set_option maxRecDepth 100000 in
set_option maxHeartbeats 4000000 in
theorem ok_X5_findJob_28 {E : Ev} {X : Xt} {l0 : Launch} {K : Nat → Hp → Prop} (hC : Cx E X l0 RX5 cX5_findJob 2 rm_X5_findJob) (hQ : CQ E X "findJob" (some (.object "TypeWorkshop$Job")) rm_X5_findJob (KR K)) (s0 : Nat) (h : Hp) (hV : V_X5_findJob_28 K s0 h) : WW E X h 0 0 28 [none, none] [rv s0] := by
  unfold V_X5_findJob_28 at hV
  exact r_aret hC hQ (Or.inl ⟨_, rfl⟩) dX5_findJob_28 (Nat.le_of_ble_eq_true rfl) (Nat.le_of_ble_eq_true rfl) ⟨_, rfl, hV⟩
set_option maxRecDepth 100000 in
set_option maxHeartbeats 4000000 in
theorem ok_X5_findJob_27 {E : Ev} {X : Xt} {l0 : Launch} {K : Nat → Hp → Prop} (hC : Cx E X l0 RX5 cX5_findJob 2 rm_X5_findJob) (hQ : CQ E X "findJob" (some (.object "TypeWorkshop$Job")) rm_X5_findJob (KR K)) (h : Hp) (hV : V_X5_findJob_27 K  h) : WW E X h 0 0 27 [none, none] [] := by
  unfold V_X5_findJob_27 at hV
  refine r_null hC dX5_findJob_27 ?_
  exact ok_X5_findJob_28 hC hQ 0 h hV
set_option maxRecDepth 100000 in
set_option maxHeartbeats 4000000 in
theorem ok_X5_findJob_0 {E : Ev} {X : Xt} {l0 : Launch} {K : Nat → Hp → Prop} (hC : Cx E X l0 RX5 cX5_findJob 2 rm_X5_findJob) (hQ : CQ E X "findJob" (some (.object "TypeWorkshop$Job")) rm_X5_findJob (KR K)) (a0 : Nat) (a1 : Int32) (h : Hp) (hV : V_X5_findJob a0 a1 h K) : WW E X h 0 0 0 [some (rv a0), some (.int a1)] [] := by
  unfold V_X5_findJob at hV
  refine r_iload_n hC dX5_findJob_0 rfl ?_
  refine r_if_lt (tgt := 27) hC dX5_findJob_1 (by decide) (fun k9 => ?_) (fun k9 => ?_)
  · replace hV := hV.1 k9
    refine r_sub (lo1 := [none, none]) ⟨Or.inl rfl, ⟨Or.inl rfl, trivial⟩⟩ ?_
    exact ok_X5_findJob_27 hC hQ  h hV
  · replace hV := hV.2 k9
    refine r_iload_n hC dX5_findJob_4 rfl ?_
    refine r_aload_n hC dX5_findJob_5 rfl ?_
    obtain ⟨k9, hV⟩ := hV
    refine r_getI hC dX5_findJob_6 fl_5_28 rf_5_4 lq_5 k9 ?_
    refine r_icmp_ge (tgt := 27) hC dX5_findJob_9 (by decide) (fun k9 => ?_) (fun k9 => ?_)
    · replace hV := hV.1 k9
      refine r_sub (lo1 := [none, none]) ⟨Or.inl rfl, ⟨Or.inl rfl, trivial⟩⟩ ?_
      exact ok_X5_findJob_27 hC hQ  h hV
    · replace hV := hV.2 k9
      refine r_iload_n hC dX5_findJob_12 rfl ?_
      refine r_bipush (v := 12) hC dX5_findJob_13 (by decide) ?_
      refine r_icmp_ge (tgt := 27) hC dX5_findJob_15 (by decide) (fun k9 => ?_) (fun k9 => ?_)
      · replace hV := hV.1 k9
        refine r_sub (lo1 := [none, none]) ⟨Or.inl rfl, ⟨Or.inl rfl, trivial⟩⟩ ?_
        exact ok_X5_findJob_27 hC hQ  h hV
      · replace hV := hV.2 k9
        refine r_aload_n hC dX5_findJob_18 rfl ?_
        obtain ⟨k9, hV⟩ := hV
        refine r_getR hC dX5_findJob_19 fl_5_20 rf_5_2 lq_5 k9 ?_
        refine r_iload_n hC dX5_findJob_22 rfl ?_
        obtain ⟨k9, k8, hV⟩ := hV
        refine r_aald (kd := 22) (d := 2) hC dX5_findJob_23 (by decide) rfl (by decide) k9 k8 ?_
        refine r_goto (tgt := 28) hC dX5_findJob_24 (by decide) ?_
        refine r_sub (lo1 := [none, none]) ⟨Or.inl rfl, ⟨Or.inl rfl, trivial⟩⟩ ?_
        exact ok_X5_findJob_28 hC hQ (hR h (hR h a0 2) (ix a1)) h hV
set_option maxRecDepth 100000 in
set_option maxHeartbeats 4000000 in
theorem con_X5_findJob {E : Ev} {l0 : Launch} (a0 : Nat) (a1 : Int32) (h : Hp) (K : Nat → Hp → Prop) (hV : V_X5_findJob a0 a1 h K) : Con E l0 yX5_findJob cX5_findJob 2 (some (.object "TypeWorkshop$Job")) rm_X5_findJob [rv a0, .int a1] h (KR K) := by
  refine Con.of (by decide +kernel) (cat_R (cat_I cat_nil)) (Nat.le_of_ble_eq_true rfl) (fun X hC hQ => ?_)
  refine r_sub (lo1 := [some (rv a0), some (.int a1)]) (show lsub [some (rv a0), some (.int a1)] _ from ⟨Or.inr rfl, ⟨Or.inr rfl, trivial⟩⟩) ?_
  exact ok_X5_findJob_0 hC hQ a0 a1 h hV
theorem dX5_allDaysLate_0 : decode cX5_allDaysLate 0 = .ok (.iconst 0, 1) := by decide +kernel
theorem dX5_allDaysLate_1 : decode cX5_allDaysLate 1 = .ok (.istore_n 1, 1) := by decide +kernel
theorem dX5_allDaysLate_2 : decode cX5_allDaysLate 2 = .ok (.iconst 0, 1) := by decide +kernel
theorem dX5_allDaysLate_3 : decode cX5_allDaysLate 3 = .ok (.istore_n 2, 1) := by decide +kernel
theorem dX5_allDaysLate_4 : decode cX5_allDaysLate 4 = .ok (.iload_n 2, 1) := by decide +kernel
theorem dX5_allDaysLate_5 : decode cX5_allDaysLate 5 = .ok (.bipush 12, 2) := by decide +kernel
theorem dX5_allDaysLate_7 : decode cX5_allDaysLate 7 = .ok (.if_icmp .ge 35, 3) := by decide +kernel
theorem dX5_allDaysLate_10 : decode cX5_allDaysLate 10 = .ok (.aload_n 0, 1) := by decide +kernel
theorem dX5_allDaysLate_11 : decode cX5_allDaysLate 11 = .ok (.iload_n 2, 1) := by decide +kernel
theorem dX5_allDaysLate_12 : decode cX5_allDaysLate 12 = .ok (.invokevirtual 69, 3) := by decide +kernel
theorem dX5_allDaysLate_15 : decode cX5_allDaysLate 15 = .ok (.astore_n 3, 1) := by decide +kernel
theorem dX5_allDaysLate_16 : decode cX5_allDaysLate 16 = .ok (.aload_n 3, 1) := by decide +kernel
theorem dX5_allDaysLate_17 : decode cX5_allDaysLate 17 = .ok (.ifnull 19, 3) := by decide +kernel
theorem dX5_allDaysLate_20 : decode cX5_allDaysLate 20 = .ok (.aload_n 3, 1) := by decide +kernel
theorem dX5_allDaysLate_21 : decode cX5_allDaysLate 21 = .ok (.getfield 77, 3) := by decide +kernel
theorem dX5_allDaysLate_24 : decode cX5_allDaysLate 24 = .ok (.bipush (-5), 2) := by decide +kernel
theorem dX5_allDaysLate_26 : decode cX5_allDaysLate 26 = .ok (.if_icmp .eq 10, 3) := by decide +kernel
theorem dX5_allDaysLate_29 : decode cX5_allDaysLate 29 = .ok (.iload_n 1, 1) := by decide +kernel
theorem dX5_allDaysLate_30 : decode cX5_allDaysLate 30 = .ok (.aload_n 3, 1) := by decide +kernel
theorem dX5_allDaysLate_31 : decode cX5_allDaysLate 31 = .ok (.invokevirtual 80, 3) := by decide +kernel
theorem dX5_allDaysLate_34 : decode cX5_allDaysLate 34 = .ok (.iadd, 1) := by decide +kernel
theorem dX5_allDaysLate_35 : decode cX5_allDaysLate 35 = .ok (.istore_n 1, 1) := by decide +kernel
theorem dX5_allDaysLate_36 : decode cX5_allDaysLate 36 = .ok (.iinc 2 1, 3) := by decide +kernel
theorem dX5_allDaysLate_39 : decode cX5_allDaysLate 39 = .ok (.goto (-35), 3) := by decide +kernel
theorem dX5_allDaysLate_42 : decode cX5_allDaysLate 42 = .ok (.iload_n 1, 1) := by decide +kernel
theorem dX5_allDaysLate_43 : decode cX5_allDaysLate 43 = .ok (.ireturn, 1) := by decide +kernel
def rm_X5_allDaysLate : Room := { frames := 2, cells := 0, slots := 0, locals := 46 }
set_option maxRecDepth 100000 in
set_option maxHeartbeats 4000000 in
theorem ok_X5_allDaysLate_36 {E : Ev} {X : Xt} {l0 : Launch} {K : Int32 → Hp → Prop} {C4 : Nat → Int32 → Int32 → Hp → Prop} (hC : Cx E X l0 RX5 cX5_allDaysLate 4 rm_X5_allDaysLate) (hQ : CQ E X "allDaysLate" (some .int) rm_X5_allDaysLate (KI K)) (hC4 : ∀ (a0 : Nat) (a1 : Int32) (a2 : Int32) (h : Hp), C4 a0 a1 a2 h → WW E X h 0 0 4 [some (rv a0), some (.int a1), some (.int a2), none] []) (a0 : Nat) (a1 : Int32) (a2 : Int32) (h : Hp) (hV : V_X5_allDaysLate_36 K C4 a0 a1 a2 h) : WW E X h 0 0 36 [some (rv a0), some (.int a1), some (.int a2), none] [] := by
  unfold V_X5_allDaysLate_36 at hV
  refine r_iinc (v := 1) (lo1 := [some (rv a0), some (.int a1), some (.int (a2 + 1)), none]) hC dX5_allDaysLate_36 rfl (by decide) (pvI rfl) rfl ?_
  refine r_goto (tgt := 4) hC dX5_allDaysLate_39 (by decide) ?_
  exact hC4 a0 a1 (a2 + 1) h hV
set_option maxRecDepth 100000 in
set_option maxHeartbeats 4000000 in
theorem ok_X5_allDaysLate_4 {E : Ev} {X : Xt} {l0 : Launch} {K : Int32 → Hp → Prop} (hC : Cx E X l0 RX5 cX5_allDaysLate 4 rm_X5_allDaysLate) (hQ : CQ E X "allDaysLate" (some .int) rm_X5_allDaysLate (KI K)) : ∀ (n : Nat) (a0 : Nat) (a1 : Int32) (a2 : Int32) (h : Hp), V_X5_allDaysLate_4 K n a0 a1 a2 h → WW E X h 0 0 4 [some (rv a0), some (.int a1), some (.int a2), none] [] := by
  intro n
  induction n with
  | zero => intro a0 a1 a2 h hV; exact hV.elim
  | succ n ih =>
    intro a0 a1 a2 h hV
    unfold V_X5_allDaysLate_4 at hV
    refine r_iload_n hC dX5_allDaysLate_4 rfl ?_
    refine r_bipush (v := 12) hC dX5_allDaysLate_5 (by decide) ?_
    refine r_icmp_ge (tgt := 42) hC dX5_allDaysLate_7 (by decide) (fun k9 => ?_) (fun k9 => ?_)
    · replace hV := hV.1 k9
      refine r_iload_n hC dX5_allDaysLate_42 rfl ?_
      exact r_iret hC hQ dX5_allDaysLate_43 (Nat.le_of_ble_eq_true rfl) (Nat.le_of_ble_eq_true rfl) ⟨_, rfl, hV⟩
    · replace hV := hV.2 k9
      refine r_aload_n hC dX5_allDaysLate_10 rfl ?_
      refine r_iload_n hC dX5_allDaysLate_11 rfl ?_
      obtain ⟨k9, hV⟩ := hV
      refine r_callV (ci := 5) (As := [.int a2]) hC dX5_allDaysLate_12 rfl cf_X5_findJob ml_5_69 im_X5_findJob sl_X5_findJob lq_5 rfl rfl k9 rfl ⟨(Nat.le_of_ble_eq_true rfl), (Nat.le_of_ble_eq_true rfl), (Nat.le_of_ble_eq_true rfl), (Nat.le_of_ble_eq_true rfl)⟩ cs0 (Nat.le_of_ble_eq_true rfl) (con_X5_findJob a0 a2 h _ hV) rfl (kR (k := 0) (n := 0) (fun r1 h1 hV => ?_))
      refine r_astore_n (ii := 3) (lo1 := [some (rv a0), some (.int a1), some (.int a2), some (rv r1)]) hC dX5_allDaysLate_15 rfl (Nat.le_of_ble_eq_true rfl) (pvI rfl) rfl ?_
      refine r_aload_n hC dX5_allDaysLate_16 rfl ?_
      refine r_ifnull (tgt := 36) hC dX5_allDaysLate_17 (by decide) (fun k9 => ?_) (fun k9 => ?_)
      · replace hV := hV.1 k9
        refine r_sub (lo1 := [some (rv a0), some (.int a1), some (.int a2), none]) ⟨Or.inr rfl, ⟨Or.inr rfl, ⟨Or.inr rfl, ⟨Or.inl rfl, trivial⟩⟩⟩⟩ ?_
        exact ok_X5_allDaysLate_36 hC hQ ih a0 a1 a2 h1 hV
      · replace hV := hV.2 k9
        refine r_aload_n hC dX5_allDaysLate_20 rfl ?_
        obtain ⟨k9, hV⟩ := hV
        refine r_getI hC dX5_allDaysLate_21 fl_5_77 rf_1_2 lq_1 k9 ?_
        refine r_bipush (v := (-5)) hC dX5_allDaysLate_24 (by decide) ?_
        refine r_icmp_eq (tgt := 36) hC dX5_allDaysLate_26 (by decide) (fun k9 => ?_) (fun k9 => ?_)
        · replace hV := hV.1 k9
          refine r_sub (lo1 := [some (rv a0), some (.int a1), some (.int a2), none]) ⟨Or.inr rfl, ⟨Or.inr rfl, ⟨Or.inr rfl, ⟨Or.inl rfl, trivial⟩⟩⟩⟩ ?_
          exact ok_X5_allDaysLate_36 hC hQ ih a0 a1 a2 h1 hV
        · replace hV := hV.2 k9
          refine r_iload_n hC dX5_allDaysLate_29 rfl ?_
          refine r_aload_n hC dX5_allDaysLate_30 rfl ?_
          obtain ⟨k9, hV⟩ := hV
          refine r_callV (ci := 1) (As := []) hC dX5_allDaysLate_31 rfl cf_X1_daysLate ml_5_80 im_X1_daysLate sl_X1_daysLate lq_1 rfl rfl k9 rfl ⟨(Nat.le_of_ble_eq_true rfl), (Nat.le_of_ble_eq_true rfl), (Nat.le_of_ble_eq_true rfl), (Nat.le_of_ble_eq_true rfl)⟩ (csI cs0) (Nat.le_of_ble_eq_true rfl) (con_X1_daysLate r1 h1 _ hV) rfl (kI (k := 0) (n := 0) (fun r2 h2 hV => ?_))
          refine r_iadd hC dX5_allDaysLate_34 ?_
          refine r_istore_n (ii := 1) (lo1 := [some (rv a0), some (.int (a1 + r2)), some (.int a2), some (rv r1)]) hC dX5_allDaysLate_35 rfl (Nat.le_of_ble_eq_true rfl) (pvR rfl) rfl ?_
          refine r_sub (lo1 := [some (rv a0), some (.int (a1 + r2)), some (.int a2), none]) ⟨Or.inr rfl, ⟨Or.inr rfl, ⟨Or.inr rfl, ⟨Or.inl rfl, trivial⟩⟩⟩⟩ ?_
          exact ok_X5_allDaysLate_36 hC hQ ih a0 (a1 + r2) a2 h2 hV
set_option maxRecDepth 100000 in
set_option maxHeartbeats 4000000 in
theorem ok_X5_allDaysLate_0 {E : Ev} {X : Xt} {l0 : Launch} {K : Int32 → Hp → Prop} (hC : Cx E X l0 RX5 cX5_allDaysLate 4 rm_X5_allDaysLate) (hQ : CQ E X "allDaysLate" (some .int) rm_X5_allDaysLate (KI K)) (a0 : Nat) (h : Hp) (hV : V_X5_allDaysLate a0 h K) : WW E X h 0 0 0 [some (rv a0), none, none, none] [] := by
  unfold V_X5_allDaysLate at hV
  refine r_iconst (v := 0) hC dX5_allDaysLate_0 (by decide) ?_
  refine r_istore_n (ii := 1) (lo1 := [some (rv a0), some (.int 0), none, none]) hC dX5_allDaysLate_1 rfl (Nat.le_of_ble_eq_true rfl) (pvR rfl) rfl ?_
  refine r_iconst (v := 0) hC dX5_allDaysLate_2 (by decide) ?_
  refine r_istore_n (ii := 2) (lo1 := [some (rv a0), some (.int 0), some (.int 0), none]) hC dX5_allDaysLate_3 rfl (Nat.le_of_ble_eq_true rfl) (pvI rfl) rfl ?_
  obtain ⟨n9, hV⟩ := hV
  exact ok_X5_allDaysLate_4 hC hQ n9 a0 0 0 h hV
set_option maxRecDepth 100000 in
set_option maxHeartbeats 4000000 in
theorem con_X5_allDaysLate {E : Ev} {l0 : Launch} (a0 : Nat) (h : Hp) (K : Int32 → Hp → Prop) (hV : V_X5_allDaysLate a0 h K) : Con E l0 yX5_allDaysLate cX5_allDaysLate 4 (some .int) rm_X5_allDaysLate [rv a0] h (KI K) := by
  refine Con.of (by decide +kernel) (cat_R cat_nil) (Nat.le_of_ble_eq_true rfl) (fun X hC hQ => ?_)
  refine r_sub (lo1 := [some (rv a0), none, none, none]) (show lsub [some (rv a0), none, none, none] _ from ⟨Or.inr rfl, ⟨Or.inr rfl, ⟨Or.inr rfl, ⟨Or.inr rfl, trivial⟩⟩⟩⟩) ?_
  exact ok_X5_allDaysLate_0 hC hQ a0 h hV
theorem dX5_copyFrom_0 : decode cX5_copyFrom 0 = .ok (.aload_n 1, 1) := by decide +kernel
theorem dX5_copyFrom_1 : decode cX5_copyFrom 1 = .ok (.getfield 9, 3) := by decide +kernel
theorem dX5_copyFrom_4 : decode cX5_copyFrom 4 = .ok (.iconst 0, 1) := by decide +kernel
theorem dX5_copyFrom_5 : decode cX5_copyFrom 5 = .ok (.aload_n 0, 1) := by decide +kernel
theorem dX5_copyFrom_6 : decode cX5_copyFrom 6 = .ok (.getfield 9, 3) := by decide +kernel
theorem dX5_copyFrom_9 : decode cX5_copyFrom 9 = .ok (.iconst 0, 1) := by decide +kernel
theorem dX5_copyFrom_10 : decode cX5_copyFrom 10 = .ok (.sipush 174, 3) := by decide +kernel
theorem dX5_copyFrom_13 : decode cX5_copyFrom 13 = .ok (.invokestatic 49, 3) := by decide +kernel
theorem dX5_copyFrom_16 : decode cX5_copyFrom 16 = .ok (.aload_n 1, 1) := by decide +kernel
theorem dX5_copyFrom_17 : decode cX5_copyFrom 17 = .ok (.getfield 15, 3) := by decide +kernel
theorem dX5_copyFrom_20 : decode cX5_copyFrom 20 = .ok (.iconst 0, 1) := by decide +kernel
theorem dX5_copyFrom_21 : decode cX5_copyFrom 21 = .ok (.aload_n 0, 1) := by decide +kernel
theorem dX5_copyFrom_22 : decode cX5_copyFrom 22 = .ok (.getfield 15, 3) := by decide +kernel
theorem dX5_copyFrom_25 : decode cX5_copyFrom 25 = .ok (.iconst 0, 1) := by decide +kernel
theorem dX5_copyFrom_26 : decode cX5_copyFrom 26 = .ok (.bipush 29, 2) := by decide +kernel
theorem dX5_copyFrom_28 : decode cX5_copyFrom 28 = .ok (.invokestatic 49, 3) := by decide +kernel
theorem dX5_copyFrom_31 : decode cX5_copyFrom 31 = .ok (.iconst 0, 1) := by decide +kernel
theorem dX5_copyFrom_32 : decode cX5_copyFrom 32 = .ok (.istore_n 2, 1) := by decide +kernel
theorem dX5_copyFrom_33 : decode cX5_copyFrom 33 = .ok (.iload_n 2, 1) := by decide +kernel
theorem dX5_copyFrom_34 : decode cX5_copyFrom 34 = .ok (.bipush 12, 2) := by decide +kernel
theorem dX5_copyFrom_36 : decode cX5_copyFrom 36 = .ok (.if_icmp .ge 21, 3) := by decide +kernel
theorem dX5_copyFrom_39 : decode cX5_copyFrom 39 = .ok (.aload_n 0, 1) := by decide +kernel
theorem dX5_copyFrom_40 : decode cX5_copyFrom 40 = .ok (.getfield 20, 3) := by decide +kernel
theorem dX5_copyFrom_43 : decode cX5_copyFrom 43 = .ok (.iload_n 2, 1) := by decide +kernel
theorem dX5_copyFrom_44 : decode cX5_copyFrom 44 = .ok (.aload_n 1, 1) := by decide +kernel
theorem dX5_copyFrom_45 : decode cX5_copyFrom 45 = .ok (.getfield 20, 3) := by decide +kernel
theorem dX5_copyFrom_48 : decode cX5_copyFrom 48 = .ok (.iload_n 2, 1) := by decide +kernel
theorem dX5_copyFrom_49 : decode cX5_copyFrom 49 = .ok (.aaload, 1) := by decide +kernel
theorem dX5_copyFrom_50 : decode cX5_copyFrom 50 = .ok (.aastore, 1) := by decide +kernel
theorem dX5_copyFrom_51 : decode cX5_copyFrom 51 = .ok (.iinc 2 1, 3) := by decide +kernel
theorem dX5_copyFrom_54 : decode cX5_copyFrom 54 = .ok (.goto (-21), 3) := by decide +kernel
theorem dX5_copyFrom_57 : decode cX5_copyFrom 57 = .ok (.aload_n 0, 1) := by decide +kernel
theorem dX5_copyFrom_58 : decode cX5_copyFrom 58 = .ok (.aload_n 1, 1) := by decide +kernel
theorem dX5_copyFrom_59 : decode cX5_copyFrom 59 = .ok (.getfield 24, 3) := by decide +kernel
theorem dX5_copyFrom_62 : decode cX5_copyFrom 62 = .ok (.putfield 24, 3) := by decide +kernel
theorem dX5_copyFrom_65 : decode cX5_copyFrom 65 = .ok (.aload_n 0, 1) := by decide +kernel
theorem dX5_copyFrom_66 : decode cX5_copyFrom 66 = .ok (.aload_n 1, 1) := by decide +kernel
theorem dX5_copyFrom_67 : decode cX5_copyFrom 67 = .ok (.getfield 28, 3) := by decide +kernel
theorem dX5_copyFrom_70 : decode cX5_copyFrom 70 = .ok (.putfield 28, 3) := by decide +kernel
theorem dX5_copyFrom_73 : decode cX5_copyFrom 73 = .ok (.aload_n 0, 1) := by decide +kernel
theorem dX5_copyFrom_74 : decode cX5_copyFrom 74 = .ok (.aload_n 1, 1) := by decide +kernel
theorem dX5_copyFrom_75 : decode cX5_copyFrom 75 = .ok (.getfield 31, 3) := by decide +kernel
theorem dX5_copyFrom_78 : decode cX5_copyFrom 78 = .ok (.putfield 31, 3) := by decide +kernel
theorem dX5_copyFrom_81 : decode cX5_copyFrom 81 = .ok (.aload_n 0, 1) := by decide +kernel
theorem dX5_copyFrom_82 : decode cX5_copyFrom 82 = .ok (.aload_n 1, 1) := by decide +kernel
theorem dX5_copyFrom_83 : decode cX5_copyFrom 83 = .ok (.getfield 34, 3) := by decide +kernel
theorem dX5_copyFrom_86 : decode cX5_copyFrom 86 = .ok (.putfield 34, 3) := by decide +kernel
theorem dX5_copyFrom_89 : decode cX5_copyFrom 89 = .ok (.aload_n 0, 1) := by decide +kernel
theorem dX5_copyFrom_90 : decode cX5_copyFrom 90 = .ok (.aload_n 1, 1) := by decide +kernel
theorem dX5_copyFrom_91 : decode cX5_copyFrom 91 = .ok (.getfield 37, 3) := by decide +kernel
theorem dX5_copyFrom_94 : decode cX5_copyFrom 94 = .ok (.putfield 37, 3) := by decide +kernel
theorem dX5_copyFrom_97 : decode cX5_copyFrom 97 = .ok (.aload_n 0, 1) := by decide +kernel
theorem dX5_copyFrom_98 : decode cX5_copyFrom 98 = .ok (.aload_n 1, 1) := by decide +kernel
theorem dX5_copyFrom_99 : decode cX5_copyFrom 99 = .ok (.getfield 40, 3) := by decide +kernel
theorem dX5_copyFrom_102 : decode cX5_copyFrom 102 = .ok (.putfield 40, 3) := by decide +kernel
theorem dX5_copyFrom_105 : decode cX5_copyFrom 105 = .ok (.aload_n 0, 1) := by decide +kernel
theorem dX5_copyFrom_106 : decode cX5_copyFrom 106 = .ok (.aload_n 1, 1) := by decide +kernel
theorem dX5_copyFrom_107 : decode cX5_copyFrom 107 = .ok (.getfield 43, 3) := by decide +kernel
theorem dX5_copyFrom_110 : decode cX5_copyFrom 110 = .ok (.putfield 43, 3) := by decide +kernel
theorem dX5_copyFrom_113 : decode cX5_copyFrom 113 = .ok (.aload_n 0, 1) := by decide +kernel
theorem dX5_copyFrom_114 : decode cX5_copyFrom 114 = .ok (.aload_n 1, 1) := by decide +kernel
theorem dX5_copyFrom_115 : decode cX5_copyFrom 115 = .ok (.getfield 46, 3) := by decide +kernel
theorem dX5_copyFrom_118 : decode cX5_copyFrom 118 = .ok (.putfield 46, 3) := by decide +kernel
theorem dX5_copyFrom_121 : decode cX5_copyFrom 121 = .ok (.return_, 1) := by decide +kernel
def rm_X5_copyFrom : Room := { frames := 1, cells := 0, slots := 0, locals := 26 }
set_option maxRecDepth 100000 in
set_option maxHeartbeats 4000000 in
theorem ok_X5_copyFrom_33 {E : Ev} {X : Xt} {l0 : Launch} {K : Hp → Prop} (hC : Cx E X l0 RX5 cX5_copyFrom 3 rm_X5_copyFrom) (hQ : CQ E X "copyFrom" none rm_X5_copyFrom (KV K)) : ∀ (n : Nat) (a0 : Nat) (a1 : Nat) (a2 : Int32) (h : Hp), V_X5_copyFrom_33 K n a0 a1 a2 h → WW E X h 0 0 33 [some (rv a0), some (rv a1), some (.int a2)] [] := by
  intro n
  induction n with
  | zero => intro a0 a1 a2 h hV; exact hV.elim
  | succ n ih =>
    intro a0 a1 a2 h hV
    unfold V_X5_copyFrom_33 at hV
    refine r_iload_n hC dX5_copyFrom_33 rfl ?_
    refine r_bipush (v := 12) hC dX5_copyFrom_34 (by decide) ?_
    refine r_icmp_ge (tgt := 57) hC dX5_copyFrom_36 (by decide) (fun k9 => ?_) (fun k9 => ?_)
    · replace hV := hV.1 k9
      refine r_aload_n hC dX5_copyFrom_57 rfl ?_
      refine r_aload_n hC dX5_copyFrom_58 rfl ?_
      obtain ⟨k9, hV⟩ := hV
      refine r_getI hC dX5_copyFrom_59 fl_5_24 rf_5_3 lq_5 k9 ?_
      obtain ⟨k9, hV⟩ := hV
      refine r_putI hC dX5_copyFrom_62 fl_5_24 ft_5 rfl rf_5_3 ty_5_3 lq_5 k9 (nmH (fun h1 k9 => ?_))
      replace hV := hV h1 k9
      refine r_aload_n hC dX5_copyFrom_65 rfl ?_
      refine r_aload_n hC dX5_copyFrom_66 rfl ?_
      obtain ⟨k9, hV⟩ := hV
      refine r_getI hC dX5_copyFrom_67 fl_5_28 rf_5_4 lq_5 k9 ?_
      obtain ⟨k9, hV⟩ := hV
      refine r_putI hC dX5_copyFrom_70 fl_5_28 ft_5 rfl rf_5_4 ty_5_4 lq_5 k9 (nmH (fun h2 k9 => ?_))
      replace hV := hV h2 k9
      refine r_aload_n hC dX5_copyFrom_73 rfl ?_
      refine r_aload_n hC dX5_copyFrom_74 rfl ?_
      obtain ⟨k9, hV⟩ := hV
      refine r_getI hC dX5_copyFrom_75 fl_5_31 rf_5_5 lq_5 k9 ?_
      obtain ⟨k9, hV⟩ := hV
      refine r_putI hC dX5_copyFrom_78 fl_5_31 ft_5 rfl rf_5_5 ty_5_5 lq_5 k9 (nmH (fun h3 k9 => ?_))
      replace hV := hV h3 k9
      refine r_aload_n hC dX5_copyFrom_81 rfl ?_
      refine r_aload_n hC dX5_copyFrom_82 rfl ?_
      obtain ⟨k9, hV⟩ := hV
      refine r_getI hC dX5_copyFrom_83 fl_5_34 rf_5_6 lq_5 k9 ?_
      obtain ⟨k9, hV⟩ := hV
      refine r_putI hC dX5_copyFrom_86 fl_5_34 ft_5 rfl rf_5_6 ty_5_6 lq_5 k9 (nmH (fun h4 k9 => ?_))
      replace hV := hV h4 k9
      refine r_aload_n hC dX5_copyFrom_89 rfl ?_
      refine r_aload_n hC dX5_copyFrom_90 rfl ?_
      obtain ⟨k9, hV⟩ := hV
      refine r_getI hC dX5_copyFrom_91 fl_5_37 rf_5_7 lq_5 k9 ?_
      obtain ⟨k9, hV⟩ := hV
      refine r_putI hC dX5_copyFrom_94 fl_5_37 ft_5 rfl rf_5_7 ty_5_7 lq_5 k9 (nmH (fun h5 k9 => ?_))
      replace hV := hV h5 k9
      refine r_aload_n hC dX5_copyFrom_97 rfl ?_
      refine r_aload_n hC dX5_copyFrom_98 rfl ?_
      obtain ⟨k9, hV⟩ := hV
      refine r_getI hC dX5_copyFrom_99 fl_5_40 rf_5_8 lq_5 k9 ?_
      obtain ⟨k9, hV⟩ := hV
      refine r_putI hC dX5_copyFrom_102 fl_5_40 ft_5 rfl rf_5_8 ty_5_8 lq_5 k9 (nmH (fun h6 k9 => ?_))
      replace hV := hV h6 k9
      refine r_aload_n hC dX5_copyFrom_105 rfl ?_
      refine r_aload_n hC dX5_copyFrom_106 rfl ?_
      obtain ⟨k9, hV⟩ := hV
      refine r_getI hC dX5_copyFrom_107 fl_5_43 rf_5_9 lq_5 k9 ?_
      obtain ⟨k9, hV⟩ := hV
      refine r_putI hC dX5_copyFrom_110 fl_5_43 ft_5 rfl rf_5_9 ty_5_9 lq_5 k9 (nmH (fun h7 k9 => ?_))
      replace hV := hV h7 k9
      refine r_aload_n hC dX5_copyFrom_113 rfl ?_
      refine r_aload_n hC dX5_copyFrom_114 rfl ?_
      obtain ⟨k9, hV⟩ := hV
      refine r_getI hC dX5_copyFrom_115 fl_5_46 rf_5_10 lq_5 k9 ?_
      obtain ⟨k9, hV⟩ := hV
      refine r_putI hC dX5_copyFrom_118 fl_5_46 ft_5 rfl rf_5_10 ty_5_10 lq_5 k9 (nmH (fun h8 k9 => ?_))
      replace hV := hV h8 k9
      exact r_vret hC hQ dX5_copyFrom_121 (Nat.le_of_ble_eq_true rfl) (Nat.le_of_ble_eq_true rfl) ⟨rfl, hV⟩
    · replace hV := hV.2 k9
      refine r_aload_n hC dX5_copyFrom_39 rfl ?_
      obtain ⟨k9, hV⟩ := hV
      refine r_getR hC dX5_copyFrom_40 fl_5_20 rf_5_2 lq_5 k9 ?_
      refine r_iload_n hC dX5_copyFrom_43 rfl ?_
      refine r_aload_n hC dX5_copyFrom_44 rfl ?_
      obtain ⟨k9, hV⟩ := hV
      refine r_getR hC dX5_copyFrom_45 fl_5_20 rf_5_2 lq_5 k9 ?_
      refine r_iload_n hC dX5_copyFrom_48 rfl ?_
      obtain ⟨k9, k8, hV⟩ := hV
      refine r_aald (kd := 22) (d := 2) hC dX5_copyFrom_49 (by decide) rfl (by decide) k9 k8 ?_
      obtain ⟨k9, k8, k7, hV⟩ := hV
      refine r_aast (kd := 22) (d := 2) (ci := 1) hC dX5_copyFrom_50 (by decide) rfl (by decide) lq_1 rfl rfl k9 k8 k7 (nmH (fun h1 k9 => ?_))
      replace hV := hV h1 k9
      refine r_iinc (v := 1) (lo1 := [some (rv a0), some (rv a1), some (.int (a2 + 1))]) hC dX5_copyFrom_51 rfl (by decide) (pvR rfl) rfl ?_
      refine r_goto (tgt := 33) hC dX5_copyFrom_54 (by decide) ?_
      exact ih a0 a1 (a2 + 1) h1 hV
set_option maxRecDepth 100000 in
set_option maxHeartbeats 4000000 in
theorem ok_X5_copyFrom_0 {E : Ev} {X : Xt} {l0 : Launch} {K : Hp → Prop} (hC : Cx E X l0 RX5 cX5_copyFrom 3 rm_X5_copyFrom) (hQ : CQ E X "copyFrom" none rm_X5_copyFrom (KV K)) (a0 : Nat) (a1 : Nat) (h : Hp) (hV : V_X5_copyFrom a0 a1 h K) : WW E X h 0 0 0 [some (rv a0), some (rv a1), none] [] := by
  unfold V_X5_copyFrom at hV
  refine r_aload_n hC dX5_copyFrom_0 rfl ?_
  obtain ⟨k9, hV⟩ := hV
  refine r_getR hC dX5_copyFrom_1 fl_5_9 rf_5_0 lq_5 k9 ?_
  refine r_iconst (v := 0) hC dX5_copyFrom_4 (by decide) ?_
  refine r_aload_n hC dX5_copyFrom_5 rfl ?_
  obtain ⟨k9, hV⟩ := hV
  refine r_getR hC dX5_copyFrom_6 fl_5_9 rf_5_0 lq_5 k9 ?_
  refine r_iconst (v := 0) hC dX5_copyFrom_9 (by decide) ?_
  refine r_sipush (v := 174) hC dX5_copyFrom_10 (by decide) ?_
  obtain ⟨k9, k8, k7, k6, k5, k4, k3, hV⟩ := hV
  refine r_copy (kd := 35) hC dX5_copyFrom_13 rfl ml_5_49 cpy_n cpy_s sys_i cs0 ⟨Nat.le_of_ble_eq_true rfl, Nat.le_of_ble_eq_true rfl⟩ (by decide) rfl k9 k8 k7 k6 k5 k4 k3 (nmH (fun h1 k9 => ?_))
  replace hV := hV h1 k9
  refine r_aload_n hC dX5_copyFrom_16 rfl ?_
  obtain ⟨k9, hV⟩ := hV
  refine r_getR hC dX5_copyFrom_17 fl_5_15 rf_5_1 lq_5 k9 ?_
  refine r_iconst (v := 0) hC dX5_copyFrom_20 (by decide) ?_
  refine r_aload_n hC dX5_copyFrom_21 rfl ?_
  obtain ⟨k9, hV⟩ := hV
  refine r_getR hC dX5_copyFrom_22 fl_5_15 rf_5_1 lq_5 k9 ?_
  refine r_iconst (v := 0) hC dX5_copyFrom_25 (by decide) ?_
  refine r_bipush (v := 29) hC dX5_copyFrom_26 (by decide) ?_
  obtain ⟨k9, k8, k7, k6, k5, k4, k3, hV⟩ := hV
  refine r_copy (kd := 36) hC dX5_copyFrom_28 rfl ml_5_49 cpy_n cpy_s sys_i cs0 ⟨Nat.le_of_ble_eq_true rfl, Nat.le_of_ble_eq_true rfl⟩ (by decide) rfl k9 k8 k7 k6 k5 k4 k3 (nmH (fun h2 k9 => ?_))
  replace hV := hV h2 k9
  refine r_iconst (v := 0) hC dX5_copyFrom_31 (by decide) ?_
  refine r_istore_n (ii := 2) (lo1 := [some (rv a0), some (rv a1), some (.int 0)]) hC dX5_copyFrom_32 rfl (Nat.le_of_ble_eq_true rfl) (pvR rfl) rfl ?_
  obtain ⟨n9, hV⟩ := hV
  exact ok_X5_copyFrom_33 hC hQ n9 a0 a1 0 h2 hV
set_option maxRecDepth 100000 in
set_option maxHeartbeats 4000000 in
theorem con_X5_copyFrom {E : Ev} {l0 : Launch} (a0 : Nat) (a1 : Nat) (h : Hp) (K : Hp → Prop) (hV : V_X5_copyFrom a0 a1 h K) : Con E l0 yX5_copyFrom cX5_copyFrom 3 none rm_X5_copyFrom [rv a0, rv a1] h (KV K) := by
  refine Con.of (by decide +kernel) (cat_R (cat_R cat_nil)) (Nat.le_of_ble_eq_true rfl) (fun X hC hQ => ?_)
  refine r_sub (lo1 := [some (rv a0), some (rv a1), none]) (show lsub [some (rv a0), some (rv a1), none] _ from ⟨Or.inr rfl, ⟨Or.inr rfl, ⟨Or.inr rfl, trivial⟩⟩⟩) ?_
  exact ok_X5_copyFrom_0 hC hQ a0 a1 h hV
theorem dX5_emptyWornBox_0 : decode cX5_emptyWornBox 0 = .ok (.iconst 0, 1) := by decide +kernel
theorem dX5_emptyWornBox_1 : decode cX5_emptyWornBox 1 = .ok (.istore_n 1, 1) := by decide +kernel
theorem dX5_emptyWornBox_2 : decode cX5_emptyWornBox 2 = .ok (.iload_n 1, 1) := by decide +kernel
theorem dX5_emptyWornBox_3 : decode cX5_emptyWornBox 3 = .ok (.bipush 29, 2) := by decide +kernel
theorem dX5_emptyWornBox_5 : decode cX5_emptyWornBox 5 = .ok (.if_icmp .ge 16, 3) := by decide +kernel
theorem dX5_emptyWornBox_8 : decode cX5_emptyWornBox 8 = .ok (.aload_n 0, 1) := by decide +kernel
theorem dX5_emptyWornBox_9 : decode cX5_emptyWornBox 9 = .ok (.getfield 15, 3) := by decide +kernel
theorem dX5_emptyWornBox_12 : decode cX5_emptyWornBox 12 = .ok (.iload_n 1, 1) := by decide +kernel
theorem dX5_emptyWornBox_13 : decode cX5_emptyWornBox 13 = .ok (.iconst 0, 1) := by decide +kernel
theorem dX5_emptyWornBox_14 : decode cX5_emptyWornBox 14 = .ok (.iastore, 1) := by decide +kernel
theorem dX5_emptyWornBox_15 : decode cX5_emptyWornBox 15 = .ok (.iinc 1 1, 3) := by decide +kernel
theorem dX5_emptyWornBox_18 : decode cX5_emptyWornBox 18 = .ok (.goto (-16), 3) := by decide +kernel
theorem dX5_emptyWornBox_21 : decode cX5_emptyWornBox 21 = .ok (.return_, 1) := by decide +kernel
def rm_X5_emptyWornBox : Room := { frames := 0, cells := 0, slots := 0, locals := 0 }
set_option maxRecDepth 100000 in
set_option maxHeartbeats 4000000 in
theorem ok_X5_emptyWornBox_2 {E : Ev} {X : Xt} {l0 : Launch} {K : Hp → Prop} (hC : Cx E X l0 RX5 cX5_emptyWornBox 2 rm_X5_emptyWornBox) (hQ : CQ E X "emptyWornBox" none rm_X5_emptyWornBox (KV K)) : ∀ (n : Nat) (a0 : Nat) (a1 : Int32) (h : Hp), V_X5_emptyWornBox_2 K n a0 a1 h → WW E X h 0 0 2 [some (rv a0), some (.int a1)] [] := by
  intro n
  induction n with
  | zero => intro a0 a1 h hV; exact hV.elim
  | succ n ih =>
    intro a0 a1 h hV
    unfold V_X5_emptyWornBox_2 at hV
    refine r_iload_n hC dX5_emptyWornBox_2 rfl ?_
    refine r_bipush (v := 29) hC dX5_emptyWornBox_3 (by decide) ?_
    refine r_icmp_ge (tgt := 21) hC dX5_emptyWornBox_5 (by decide) (fun k9 => ?_) (fun k9 => ?_)
    · replace hV := hV.1 k9
      exact r_vret hC hQ dX5_emptyWornBox_21 (Nat.le_of_ble_eq_true rfl) (Nat.le_of_ble_eq_true rfl) ⟨rfl, hV⟩
    · replace hV := hV.2 k9
      refine r_aload_n hC dX5_emptyWornBox_8 rfl ?_
      obtain ⟨k9, hV⟩ := hV
      refine r_getR hC dX5_emptyWornBox_9 fl_5_15 rf_5_1 lq_5 k9 ?_
      refine r_iload_n hC dX5_emptyWornBox_12 rfl ?_
      refine r_iconst (v := 0) hC dX5_emptyWornBox_13 (by decide) ?_
      obtain ⟨k9, k8, hV⟩ := hV
      refine r_iast (kd := 36) hC dX5_emptyWornBox_14 (by decide) rfl k9 k8 (nmH (fun h1 k9 => ?_))
      replace hV := hV h1 k9
      refine r_iinc (v := 1) (lo1 := [some (rv a0), some (.int (a1 + 1))]) hC dX5_emptyWornBox_15 rfl (by decide) (pvR rfl) rfl ?_
      refine r_goto (tgt := 2) hC dX5_emptyWornBox_18 (by decide) ?_
      exact ih a0 (a1 + 1) h1 hV
set_option maxRecDepth 100000 in
set_option maxHeartbeats 4000000 in
theorem ok_X5_emptyWornBox_0 {E : Ev} {X : Xt} {l0 : Launch} {K : Hp → Prop} (hC : Cx E X l0 RX5 cX5_emptyWornBox 2 rm_X5_emptyWornBox) (hQ : CQ E X "emptyWornBox" none rm_X5_emptyWornBox (KV K)) (a0 : Nat) (h : Hp) (hV : V_X5_emptyWornBox a0 h K) : WW E X h 0 0 0 [some (rv a0), none] [] := by
  unfold V_X5_emptyWornBox at hV
  refine r_iconst (v := 0) hC dX5_emptyWornBox_0 (by decide) ?_
  refine r_istore_n (ii := 1) (lo1 := [some (rv a0), some (.int 0)]) hC dX5_emptyWornBox_1 rfl (Nat.le_of_ble_eq_true rfl) (pvR rfl) rfl ?_
  obtain ⟨n9, hV⟩ := hV
  exact ok_X5_emptyWornBox_2 hC hQ n9 a0 0 h hV
set_option maxRecDepth 100000 in
set_option maxHeartbeats 4000000 in
theorem con_X5_emptyWornBox {E : Ev} {l0 : Launch} (a0 : Nat) (h : Hp) (K : Hp → Prop) (hV : V_X5_emptyWornBox a0 h K) : Con E l0 yX5_emptyWornBox cX5_emptyWornBox 2 none rm_X5_emptyWornBox [rv a0] h (KV K) := by
  refine Con.of (by decide +kernel) (cat_R cat_nil) (Nat.le_of_ble_eq_true rfl) (fun X hC hQ => ?_)
  refine r_sub (lo1 := [some (rv a0), none]) (show lsub [some (rv a0), none] _ from ⟨Or.inr rfl, ⟨Or.inr rfl, trivial⟩⟩) ?_
  exact ok_X5_emptyWornBox_0 hC hQ a0 h hV
theorem dX5_held_0 : decode cX5_held 0 = .ok (.iload_n 1, 1) := by decide +kernel
theorem dX5_held_1 : decode cX5_held 1 = .ok (.iload_n 2, 1) := by decide +kernel
theorem dX5_held_2 : decode cX5_held 2 = .ok (.invokestatic 55, 3) := by decide +kernel
theorem dX5_held_5 : decode cX5_held 5 = .ok (.istore_n 3, 1) := by decide +kernel
theorem dX5_held_6 : decode cX5_held 6 = .ok (.iload_n 3, 1) := by decide +kernel
theorem dX5_held_7 : decode cX5_held 7 = .ok (.ifCond .lt 21, 3) := by decide +kernel
theorem dX5_held_10 : decode cX5_held 10 = .ok (.iload_n 3, 1) := by decide +kernel
theorem dX5_held_11 : decode cX5_held 11 = .ok (.aload_n 0, 1) := by decide +kernel
theorem dX5_held_12 : decode cX5_held 12 = .ok (.getfield 9, 3) := by decide +kernel
theorem dX5_held_15 : decode cX5_held 15 = .ok (.arraylength, 1) := by decide +kernel
theorem dX5_held_16 : decode cX5_held 16 = .ok (.if_icmp .ge 12, 3) := by decide +kernel
theorem dX5_held_19 : decode cX5_held 19 = .ok (.aload_n 0, 1) := by decide +kernel
theorem dX5_held_20 : decode cX5_held 20 = .ok (.getfield 9, 3) := by decide +kernel
theorem dX5_held_23 : decode cX5_held 23 = .ok (.iload_n 3, 1) := by decide +kernel
theorem dX5_held_24 : decode cX5_held 24 = .ok (.iaload, 1) := by decide +kernel
theorem dX5_held_25 : decode cX5_held 25 = .ok (.goto 4, 3) := by decide +kernel
theorem dX5_held_28 : decode cX5_held 28 = .ok (.iconst 0, 1) := by decide +kernel
theorem dX5_held_29 : decode cX5_held 29 = .ok (.ireturn, 1) := by decide +kernel
def rm_X5_held : Room := { frames := 1, cells := 0, slots := 0, locals := 21 }
set_option maxRecDepth 100000 in
set_option maxHeartbeats 4000000 in
theorem ok_X5_held_29 {E : Ev} {X : Xt} {l0 : Launch} {K : Int32 → Hp → Prop} (hC : Cx E X l0 RX5 cX5_held 4 rm_X5_held) (hQ : CQ E X "held" (some .int) rm_X5_held (KI K)) (s0 : Int32) (h : Hp) (hV : V_X5_held_29 K s0 h) : WW E X h 0 0 29 [none, none, none, none] [.int s0] := by
  unfold V_X5_held_29 at hV
  exact r_iret hC hQ dX5_held_29 (Nat.le_of_ble_eq_true rfl) (Nat.le_of_ble_eq_true rfl) ⟨_, rfl, hV⟩
set_option maxRecDepth 100000 in
set_option maxHeartbeats 4000000 in
theorem ok_X5_held_28 {E : Ev} {X : Xt} {l0 : Launch} {K : Int32 → Hp → Prop} (hC : Cx E X l0 RX5 cX5_held 4 rm_X5_held) (hQ : CQ E X "held" (some .int) rm_X5_held (KI K)) (h : Hp) (hV : V_X5_held_28 K  h) : WW E X h 0 0 28 [none, none, none, none] [] := by
  unfold V_X5_held_28 at hV
  refine r_iconst (v := 0) hC dX5_held_28 (by decide) ?_
  exact ok_X5_held_29 hC hQ 0 h hV
set_option maxRecDepth 100000 in
set_option maxHeartbeats 4000000 in
theorem ok_X5_held_0 {E : Ev} {X : Xt} {l0 : Launch} {K : Int32 → Hp → Prop} (hC : Cx E X l0 RX5 cX5_held 4 rm_X5_held) (hQ : CQ E X "held" (some .int) rm_X5_held (KI K)) (a0 : Nat) (a1 : Int32) (a2 : Int32) (h : Hp) (hV : V_X5_held a0 a1 a2 h K) : WW E X h 0 0 0 [some (rv a0), some (.int a1), some (.int a2), none] [] := by
  unfold V_X5_held at hV
  refine r_iload_n hC dX5_held_0 rfl ?_
  refine r_iload_n hC dX5_held_1 rfl ?_
  refine r_callSN (As := [.int a1, .int a2]) hC dX5_held_2 rfl cf_X6_slotOf nl_5_55 st_X6_slotOf rfl ⟨(Nat.le_of_ble_eq_true rfl), (Nat.le_of_ble_eq_true rfl), (Nat.le_of_ble_eq_true rfl), (Nat.le_of_ble_eq_true rfl)⟩ cs0 (Nat.le_of_ble_eq_true rfl) (con_X6_slotOf a1 a2 h _ hV) rfl (kI (k := 0) (n := 0) (fun r1 h1 hV => ?_))
  refine r_istore_n (ii := 3) (lo1 := [some (rv a0), some (.int a1), some (.int a2), some (.int r1)]) hC dX5_held_5 rfl (Nat.le_of_ble_eq_true rfl) (pvI rfl) rfl ?_
  refine r_iload_n hC dX5_held_6 rfl ?_
  refine r_if_lt (tgt := 28) hC dX5_held_7 (by decide) (fun k9 => ?_) (fun k9 => ?_)
  · replace hV := hV.1 k9
    refine r_sub (lo1 := [none, none, none, none]) ⟨Or.inl rfl, ⟨Or.inl rfl, ⟨Or.inl rfl, ⟨Or.inl rfl, trivial⟩⟩⟩⟩ ?_
    exact ok_X5_held_28 hC hQ  h1 hV
  · replace hV := hV.2 k9
    refine r_iload_n hC dX5_held_10 rfl ?_
    refine r_aload_n hC dX5_held_11 rfl ?_
    obtain ⟨k9, hV⟩ := hV
    refine r_getR hC dX5_held_12 fl_5_9 rf_5_0 lq_5 k9 ?_
    obtain ⟨k9, hV⟩ := hV
    refine r_alen (kd := 35) hC dX5_held_15 (by decide) k9 ?_
    refine r_icmp_ge (tgt := 28) hC dX5_held_16 (by decide) (fun k9 => ?_) (fun k9 => ?_)
    · replace hV := hV.1 k9
      refine r_sub (lo1 := [none, none, none, none]) ⟨Or.inl rfl, ⟨Or.inl rfl, ⟨Or.inl rfl, ⟨Or.inl rfl, trivial⟩⟩⟩⟩ ?_
      exact ok_X5_held_28 hC hQ  h1 hV
    · replace hV := hV.2 k9
      refine r_aload_n hC dX5_held_19 rfl ?_
      obtain ⟨k9, hV⟩ := hV
      refine r_getR hC dX5_held_20 fl_5_9 rf_5_0 lq_5 k9 ?_
      refine r_iload_n hC dX5_held_23 rfl ?_
      obtain ⟨k9, k8, hV⟩ := hV
      refine r_iald (kd := 35) hC dX5_held_24 (by decide) rfl k9 k8 ?_
      refine r_goto (tgt := 29) hC dX5_held_25 (by decide) ?_
      refine r_sub (lo1 := [none, none, none, none]) ⟨Or.inl rfl, ⟨Or.inl rfl, ⟨Or.inl rfl, ⟨Or.inl rfl, trivial⟩⟩⟩⟩ ?_
      exact ok_X5_held_29 hC hQ (hI h1 (hR h1 a0 0) (ix r1)) h1 hV
set_option maxRecDepth 100000 in
set_option maxHeartbeats 4000000 in
theorem con_X5_held {E : Ev} {l0 : Launch} (a0 : Nat) (a1 : Int32) (a2 : Int32) (h : Hp) (K : Int32 → Hp → Prop) (hV : V_X5_held a0 a1 a2 h K) : Con E l0 yX5_held cX5_held 4 (some .int) rm_X5_held [rv a0, .int a1, .int a2] h (KI K) := by
  refine Con.of (by decide +kernel) (cat_R (cat_I (cat_I cat_nil))) (Nat.le_of_ble_eq_true rfl) (fun X hC hQ => ?_)
  refine r_sub (lo1 := [some (rv a0), some (.int a1), some (.int a2), none]) (show lsub [some (rv a0), some (.int a1), some (.int a2), none] _ from ⟨Or.inr rfl, ⟨Or.inr rfl, ⟨Or.inr rfl, ⟨Or.inr rfl, trivial⟩⟩⟩⟩) ?_
  exact ok_X5_held_0 hC hQ a0 a1 a2 h hV
theorem dX5_heldInAll_0 : decode cX5_heldInAll 0 = .ok (.iconst 0, 1) := by decide +kernel
theorem dX5_heldInAll_1 : decode cX5_heldInAll 1 = .ok (.istore_n 2, 1) := by decide +kernel
theorem dX5_heldInAll_2 : decode cX5_heldInAll 2 = .ok (.iconst 0, 1) := by decide +kernel
theorem dX5_heldInAll_3 : decode cX5_heldInAll 3 = .ok (.istore_n 3, 1) := by decide +kernel
theorem dX5_heldInAll_4 : decode cX5_heldInAll 4 = .ok (.iload_n 3, 1) := by decide +kernel
theorem dX5_heldInAll_5 : decode cX5_heldInAll 5 = .ok (.bipush 6, 2) := by decide +kernel
theorem dX5_heldInAll_7 : decode cX5_heldInAll 7 = .ok (.if_icmp .ge 18, 3) := by decide +kernel
theorem dX5_heldInAll_10 : decode cX5_heldInAll 10 = .ok (.iload_n 2, 1) := by decide +kernel
theorem dX5_heldInAll_11 : decode cX5_heldInAll 11 = .ok (.aload_n 0, 1) := by decide +kernel
theorem dX5_heldInAll_12 : decode cX5_heldInAll 12 = .ok (.iload_n 3, 1) := by decide +kernel
theorem dX5_heldInAll_13 : decode cX5_heldInAll 13 = .ok (.iload_n 1, 1) := by decide +kernel
theorem dX5_heldInAll_14 : decode cX5_heldInAll 14 = .ok (.invokevirtual 59, 3) := by decide +kernel
theorem dX5_heldInAll_17 : decode cX5_heldInAll 17 = .ok (.iadd, 1) := by decide +kernel
theorem dX5_heldInAll_18 : decode cX5_heldInAll 18 = .ok (.istore_n 2, 1) := by decide +kernel
theorem dX5_heldInAll_19 : decode cX5_heldInAll 19 = .ok (.iinc 3 1, 3) := by decide +kernel
theorem dX5_heldInAll_22 : decode cX5_heldInAll 22 = .ok (.goto (-18), 3) := by decide +kernel
theorem dX5_heldInAll_25 : decode cX5_heldInAll 25 = .ok (.iload_n 2, 1) := by decide +kernel
theorem dX5_heldInAll_26 : decode cX5_heldInAll 26 = .ok (.ireturn, 1) := by decide +kernel
def rm_X5_heldInAll : Room := { frames := 2, cells := 0, slots := 0, locals := 44 }
set_option maxRecDepth 100000 in
set_option maxHeartbeats 4000000 in
theorem ok_X5_heldInAll_4 {E : Ev} {X : Xt} {l0 : Launch} {K : Int32 → Hp → Prop} (hC : Cx E X l0 RX5 cX5_heldInAll 4 rm_X5_heldInAll) (hQ : CQ E X "heldInAll" (some .int) rm_X5_heldInAll (KI K)) : ∀ (n : Nat) (a0 : Nat) (a1 : Int32) (a2 : Int32) (a3 : Int32) (h : Hp), V_X5_heldInAll_4 K n a0 a1 a2 a3 h → WW E X h 0 0 4 [some (rv a0), some (.int a1), some (.int a2), some (.int a3)] [] := by
  intro n
  induction n with
  | zero => intro a0 a1 a2 a3 h hV; exact hV.elim
  | succ n ih =>
    intro a0 a1 a2 a3 h hV
    unfold V_X5_heldInAll_4 at hV
    refine r_iload_n hC dX5_heldInAll_4 rfl ?_
    refine r_bipush (v := 6) hC dX5_heldInAll_5 (by decide) ?_
    refine r_icmp_ge (tgt := 25) hC dX5_heldInAll_7 (by decide) (fun k9 => ?_) (fun k9 => ?_)
    · replace hV := hV.1 k9
      refine r_iload_n hC dX5_heldInAll_25 rfl ?_
      exact r_iret hC hQ dX5_heldInAll_26 (Nat.le_of_ble_eq_true rfl) (Nat.le_of_ble_eq_true rfl) ⟨_, rfl, hV⟩
    · replace hV := hV.2 k9
      refine r_iload_n hC dX5_heldInAll_10 rfl ?_
      refine r_aload_n hC dX5_heldInAll_11 rfl ?_
      refine r_iload_n hC dX5_heldInAll_12 rfl ?_
      refine r_iload_n hC dX5_heldInAll_13 rfl ?_
      obtain ⟨k9, hV⟩ := hV
      refine r_callV (ci := 5) (As := [.int a3, .int a1]) hC dX5_heldInAll_14 rfl cf_X5_held ml_5_59 im_X5_held sl_X5_held lq_5 rfl rfl k9 rfl ⟨(Nat.le_of_ble_eq_true rfl), (Nat.le_of_ble_eq_true rfl), (Nat.le_of_ble_eq_true rfl), (Nat.le_of_ble_eq_true rfl)⟩ (csI cs0) (Nat.le_of_ble_eq_true rfl) (con_X5_held a0 a3 a1 h _ hV) rfl (kI (k := 0) (n := 0) (fun r1 h1 hV => ?_))
      refine r_iadd hC dX5_heldInAll_17 ?_
      refine r_istore_n (ii := 2) (lo1 := [some (rv a0), some (.int a1), some (.int (a2 + r1)), some (.int a3)]) hC dX5_heldInAll_18 rfl (Nat.le_of_ble_eq_true rfl) (pvI rfl) rfl ?_
      refine r_iinc (v := 1) (lo1 := [some (rv a0), some (.int a1), some (.int (a2 + r1)), some (.int (a3 + 1))]) hC dX5_heldInAll_19 rfl (by decide) (pvI rfl) rfl ?_
      refine r_goto (tgt := 4) hC dX5_heldInAll_22 (by decide) ?_
      exact ih a0 a1 (a2 + r1) (a3 + 1) h1 hV
set_option maxRecDepth 100000 in
set_option maxHeartbeats 4000000 in
theorem ok_X5_heldInAll_0 {E : Ev} {X : Xt} {l0 : Launch} {K : Int32 → Hp → Prop} (hC : Cx E X l0 RX5 cX5_heldInAll 4 rm_X5_heldInAll) (hQ : CQ E X "heldInAll" (some .int) rm_X5_heldInAll (KI K)) (a0 : Nat) (a1 : Int32) (h : Hp) (hV : V_X5_heldInAll a0 a1 h K) : WW E X h 0 0 0 [some (rv a0), some (.int a1), none, none] [] := by
  unfold V_X5_heldInAll at hV
  refine r_iconst (v := 0) hC dX5_heldInAll_0 (by decide) ?_
  refine r_istore_n (ii := 2) (lo1 := [some (rv a0), some (.int a1), some (.int 0), none]) hC dX5_heldInAll_1 rfl (Nat.le_of_ble_eq_true rfl) (pvI rfl) rfl ?_
  refine r_iconst (v := 0) hC dX5_heldInAll_2 (by decide) ?_
  refine r_istore_n (ii := 3) (lo1 := [some (rv a0), some (.int a1), some (.int 0), some (.int 0)]) hC dX5_heldInAll_3 rfl (Nat.le_of_ble_eq_true rfl) (pvI rfl) rfl ?_
  obtain ⟨n9, hV⟩ := hV
  exact ok_X5_heldInAll_4 hC hQ n9 a0 a1 0 0 h hV
set_option maxRecDepth 100000 in
set_option maxHeartbeats 4000000 in
theorem con_X5_heldInAll {E : Ev} {l0 : Launch} (a0 : Nat) (a1 : Int32) (h : Hp) (K : Int32 → Hp → Prop) (hV : V_X5_heldInAll a0 a1 h K) : Con E l0 yX5_heldInAll cX5_heldInAll 4 (some .int) rm_X5_heldInAll [rv a0, .int a1] h (KI K) := by
  refine Con.of (by decide +kernel) (cat_R (cat_I cat_nil)) (Nat.le_of_ble_eq_true rfl) (fun X hC hQ => ?_)
  refine r_sub (lo1 := [some (rv a0), some (.int a1), none, none]) (show lsub [some (rv a0), some (.int a1), none, none] _ from ⟨Or.inr rfl, ⟨Or.inr rfl, ⟨Or.inr rfl, ⟨Or.inr rfl, trivial⟩⟩⟩⟩) ?_
  exact ok_X5_heldInAll_0 hC hQ a0 a1 h hV
theorem dX5_init_0 : decode cX5_init 0 = .ok (.aload_n 0, 1) := by decide +kernel
theorem dX5_init_1 : decode cX5_init 1 = .ok (.invokespecial 3, 3) := by decide +kernel
theorem dX5_init_4 : decode cX5_init 4 = .ok (.aload_n 0, 1) := by decide +kernel
theorem dX5_init_5 : decode cX5_init 5 = .ok (.sipush 174, 3) := by decide +kernel
theorem dX5_init_8 : decode cX5_init 8 = .ok (.newarray .int, 2) := by decide +kernel
theorem dX5_init_10 : decode cX5_init 10 = .ok (.putfield 9, 3) := by decide +kernel
theorem dX5_init_13 : decode cX5_init 13 = .ok (.aload_n 0, 1) := by decide +kernel
theorem dX5_init_14 : decode cX5_init 14 = .ok (.bipush 29, 2) := by decide +kernel
theorem dX5_init_16 : decode cX5_init 16 = .ok (.newarray .int, 2) := by decide +kernel
theorem dX5_init_18 : decode cX5_init 18 = .ok (.putfield 15, 3) := by decide +kernel
theorem dX5_init_21 : decode cX5_init 21 = .ok (.aload_n 0, 1) := by decide +kernel
theorem dX5_init_22 : decode cX5_init 22 = .ok (.bipush 12, 2) := by decide +kernel
theorem dX5_init_24 : decode cX5_init 24 = .ok (.anewarray 18, 3) := by decide +kernel
theorem dX5_init_27 : decode cX5_init 27 = .ok (.putfield 20, 3) := by decide +kernel
theorem dX5_init_30 : decode cX5_init 30 = .ok (.aload_n 0, 1) := by decide +kernel
theorem dX5_init_31 : decode cX5_init 31 = .ok (.iconst 0, 1) := by decide +kernel
theorem dX5_init_32 : decode cX5_init 32 = .ok (.putfield 24, 3) := by decide +kernel
theorem dX5_init_35 : decode cX5_init 35 = .ok (.aload_n 0, 1) := by decide +kernel
theorem dX5_init_36 : decode cX5_init 36 = .ok (.iconst 0, 1) := by decide +kernel
theorem dX5_init_37 : decode cX5_init 37 = .ok (.putfield 28, 3) := by decide +kernel
theorem dX5_init_40 : decode cX5_init 40 = .ok (.aload_n 0, 1) := by decide +kernel
theorem dX5_init_41 : decode cX5_init 41 = .ok (.iconst 0, 1) := by decide +kernel
theorem dX5_init_42 : decode cX5_init 42 = .ok (.putfield 31, 3) := by decide +kernel
theorem dX5_init_45 : decode cX5_init 45 = .ok (.aload_n 0, 1) := by decide +kernel
theorem dX5_init_46 : decode cX5_init 46 = .ok (.iconst 0, 1) := by decide +kernel
theorem dX5_init_47 : decode cX5_init 47 = .ok (.putfield 34, 3) := by decide +kernel
theorem dX5_init_50 : decode cX5_init 50 = .ok (.aload_n 0, 1) := by decide +kernel
theorem dX5_init_51 : decode cX5_init 51 = .ok (.iconst 0, 1) := by decide +kernel
theorem dX5_init_52 : decode cX5_init 52 = .ok (.putfield 37, 3) := by decide +kernel
theorem dX5_init_55 : decode cX5_init 55 = .ok (.aload_n 0, 1) := by decide +kernel
theorem dX5_init_56 : decode cX5_init 56 = .ok (.iconst 0, 1) := by decide +kernel
theorem dX5_init_57 : decode cX5_init 57 = .ok (.putfield 40, 3) := by decide +kernel
theorem dX5_init_60 : decode cX5_init 60 = .ok (.aload_n 0, 1) := by decide +kernel
theorem dX5_init_61 : decode cX5_init 61 = .ok (.iconst 0, 1) := by decide +kernel
theorem dX5_init_62 : decode cX5_init 62 = .ok (.putfield 43, 3) := by decide +kernel
theorem dX5_init_65 : decode cX5_init 65 = .ok (.aload_n 0, 1) := by decide +kernel
theorem dX5_init_66 : decode cX5_init 66 = .ok (.iconst 0, 1) := by decide +kernel
theorem dX5_init_67 : decode cX5_init 67 = .ok (.putfield 46, 3) := by decide +kernel
theorem dX5_init_70 : decode cX5_init 70 = .ok (.return_, 1) := by decide +kernel
def rm_X5_init : Room := { frames := 1, cells := 3, slots := 215, locals := 26 }
set_option maxRecDepth 100000 in
set_option maxHeartbeats 4000000 in
theorem ok_X5_init_0 {E : Ev} {X : Xt} {l0 : Launch} {K : Hp → Prop} (hC : Cx E X l0 RX5 cX5_init 1 rm_X5_init) (hQ : CQ E X "<init>" none rm_X5_init (KV K)) (a0 : Nat) (h : Hp) (hV : V_X5_init a0 h K) : WW E X h 0 0 0 [some (rv a0)] [] := by
  unfold V_X5_init at hV
  refine r_aload_n hC dX5_init_0 rfl ?_
  obtain ⟨k9, hV⟩ := hV
  refine r_obj hC dX5_init_1 rfl ml_5_3 obj_i obj_c k9 cs0 ⟨Nat.le_of_ble_eq_true rfl, Nat.le_of_ble_eq_true rfl⟩ ?_
  refine r_aload_n hC dX5_init_4 rfl ?_
  refine r_sipush (v := 174) hC dX5_init_5 (by decide) ?_
  refine r_newarr (kd := 35) (d := 0) (N := 174) hC dX5_init_8 (by decide) rfl (by decide) rfl ka_0 (by decide) (by decide) (by decide) ⟨(Nat.le_of_ble_eq_true rfl), (Nat.le_of_ble_eq_true rfl)⟩ (fun q1 k9 k8 => nmH (fun h1 k7 => ?_))
  replace hV := hV q1 k9 k8 h1 k7
  obtain ⟨k9, hV⟩ := hV
  refine r_putFR hC hQ dX5_init_10 fl_5_9 ft_5 rfl rfl rf_5_0 ty_5_0 lq_5 k9 (nmH (fun h2 k9 => ?_))
  replace hV := hV h2 k9
  refine r_aload_n hC dX5_init_13 rfl ?_
  refine r_bipush (v := 29) hC dX5_init_14 (by decide) ?_
  refine r_newarr (kd := 36) (d := 0) (N := 29) hC dX5_init_16 (by decide) rfl (by decide) rfl ka_0 (by decide) (by decide) (by decide) ⟨(Nat.le_of_ble_eq_true rfl), (Nat.le_of_ble_eq_true rfl)⟩ (fun q2 k9 k8 => nmH (fun h3 k7 => ?_))
  replace hV := hV q2 k9 k8 h3 k7
  obtain ⟨k9, hV⟩ := hV
  refine r_putFR hC hQ dX5_init_18 fl_5_15 ft_5 rfl rfl rf_5_1 ty_5_1 lq_5 k9 (nmH (fun h4 k9 => ?_))
  replace hV := hV h4 k9
  refine r_aload_n hC dX5_init_21 rfl ?_
  refine r_bipush (v := 12) hC dX5_init_22 (by decide) ?_
  refine r_anew (kd := 22) (d := 2) (N := 12) hC dX5_init_24 (by decide) rfl (by decide) rfl kl_5_18 (by decide) (by decide) (by decide) ⟨(Nat.le_of_ble_eq_true rfl), (Nat.le_of_ble_eq_true rfl)⟩ (fun q3 k9 k8 => nmH (fun h5 k7 => ?_))
  replace hV := hV q3 k9 k8 h5 k7
  obtain ⟨k9, hV⟩ := hV
  refine r_putFR hC hQ dX5_init_27 fl_5_20 ft_5 rfl rfl rf_5_2 ty_5_2 lq_5 k9 (nmH (fun h6 k9 => ?_))
  replace hV := hV h6 k9
  refine r_aload_n hC dX5_init_30 rfl ?_
  refine r_iconst (v := 0) hC dX5_init_31 (by decide) ?_
  obtain ⟨k9, hV⟩ := hV
  refine r_putI hC dX5_init_32 fl_5_24 ft_5 rfl rf_5_3 ty_5_3 lq_5 k9 (nmH (fun h7 k9 => ?_))
  replace hV := hV h7 k9
  refine r_aload_n hC dX5_init_35 rfl ?_
  refine r_iconst (v := 0) hC dX5_init_36 (by decide) ?_
  obtain ⟨k9, hV⟩ := hV
  refine r_putI hC dX5_init_37 fl_5_28 ft_5 rfl rf_5_4 ty_5_4 lq_5 k9 (nmH (fun h8 k9 => ?_))
  replace hV := hV h8 k9
  refine r_aload_n hC dX5_init_40 rfl ?_
  refine r_iconst (v := 0) hC dX5_init_41 (by decide) ?_
  obtain ⟨k9, hV⟩ := hV
  refine r_putI hC dX5_init_42 fl_5_31 ft_5 rfl rf_5_5 ty_5_5 lq_5 k9 (nmH (fun h9 k9 => ?_))
  replace hV := hV h9 k9
  refine r_aload_n hC dX5_init_45 rfl ?_
  refine r_iconst (v := 0) hC dX5_init_46 (by decide) ?_
  obtain ⟨k9, hV⟩ := hV
  refine r_putI hC dX5_init_47 fl_5_34 ft_5 rfl rf_5_6 ty_5_6 lq_5 k9 (nmH (fun h10 k9 => ?_))
  replace hV := hV h10 k9
  refine r_aload_n hC dX5_init_50 rfl ?_
  refine r_iconst (v := 0) hC dX5_init_51 (by decide) ?_
  obtain ⟨k9, hV⟩ := hV
  refine r_putI hC dX5_init_52 fl_5_37 ft_5 rfl rf_5_7 ty_5_7 lq_5 k9 (nmH (fun h11 k9 => ?_))
  replace hV := hV h11 k9
  refine r_aload_n hC dX5_init_55 rfl ?_
  refine r_iconst (v := 0) hC dX5_init_56 (by decide) ?_
  obtain ⟨k9, hV⟩ := hV
  refine r_putI hC dX5_init_57 fl_5_40 ft_5 rfl rf_5_8 ty_5_8 lq_5 k9 (nmH (fun h12 k9 => ?_))
  replace hV := hV h12 k9
  refine r_aload_n hC dX5_init_60 rfl ?_
  refine r_iconst (v := 0) hC dX5_init_61 (by decide) ?_
  obtain ⟨k9, hV⟩ := hV
  refine r_putI hC dX5_init_62 fl_5_43 ft_5 rfl rf_5_9 ty_5_9 lq_5 k9 (nmH (fun h13 k9 => ?_))
  replace hV := hV h13 k9
  refine r_aload_n hC dX5_init_65 rfl ?_
  refine r_iconst (v := 0) hC dX5_init_66 (by decide) ?_
  obtain ⟨k9, hV⟩ := hV
  refine r_putI hC dX5_init_67 fl_5_46 ft_5 rfl rf_5_10 ty_5_10 lq_5 k9 (nmH (fun h14 k9 => ?_))
  replace hV := hV h14 k9
  exact r_vret hC hQ dX5_init_70 (Nat.le_of_ble_eq_true rfl) (Nat.le_of_ble_eq_true rfl) ⟨rfl, hV⟩
set_option maxRecDepth 100000 in
set_option maxHeartbeats 4000000 in
theorem con_X5_init {E : Ev} {l0 : Launch} (a0 : Nat) (h : Hp) (K : Hp → Prop) (hV : V_X5_init a0 h K) : Con E l0 yX5_init cX5_init 1 none rm_X5_init [rv a0] h (KV K) := by
  refine Con.of (by decide +kernel) (cat_R cat_nil) (Nat.le_of_ble_eq_true rfl) (fun X hC hQ => ?_)
  refine r_sub (lo1 := [some (rv a0)]) (show lsub [some (rv a0)] _ from ⟨Or.inr rfl, trivial⟩) ?_
  exact ok_X5_init_0 hC hQ a0 h hV
theorem dX5_metalInCases_0 : decode cX5_metalInCases 0 = .ok (.iconst 0, 1) := by decide +kernel
theorem dX5_metalInCases_1 : decode cX5_metalInCases 1 = .ok (.istore_n 1, 1) := by decide +kernel
theorem dX5_metalInCases_2 : decode cX5_metalInCases 2 = .ok (.iconst 0, 1) := by decide +kernel
theorem dX5_metalInCases_3 : decode cX5_metalInCases 3 = .ok (.istore_n 2, 1) := by decide +kernel
theorem dX5_metalInCases_4 : decode cX5_metalInCases 4 = .ok (.iload_n 2, 1) := by decide +kernel
theorem dX5_metalInCases_5 : decode cX5_metalInCases 5 = .ok (.bipush 29, 2) := by decide +kernel
theorem dX5_metalInCases_7 : decode cX5_metalInCases 7 = .ok (.if_icmp .ge 22, 3) := by decide +kernel
theorem dX5_metalInCases_10 : decode cX5_metalInCases 10 = .ok (.iload_n 1, 1) := by decide +kernel
theorem dX5_metalInCases_11 : decode cX5_metalInCases 11 = .ok (.aload_n 0, 1) := by decide +kernel
theorem dX5_metalInCases_12 : decode cX5_metalInCases 12 = .ok (.iload_n 2, 1) := by decide +kernel
theorem dX5_metalInCases_13 : decode cX5_metalInCases 13 = .ok (.invokevirtual 66, 3) := by decide +kernel
theorem dX5_metalInCases_16 : decode cX5_metalInCases 16 = .ok (.iload_n 2, 1) := by decide +kernel
theorem dX5_metalInCases_17 : decode cX5_metalInCases 17 = .ok (.invokestatic 62, 3) := by decide +kernel
theorem dX5_metalInCases_20 : decode cX5_metalInCases 20 = .ok (.imul, 1) := by decide +kernel
theorem dX5_metalInCases_21 : decode cX5_metalInCases 21 = .ok (.iadd, 1) := by decide +kernel
theorem dX5_metalInCases_22 : decode cX5_metalInCases 22 = .ok (.istore_n 1, 1) := by decide +kernel
theorem dX5_metalInCases_23 : decode cX5_metalInCases 23 = .ok (.iinc 2 1, 3) := by decide +kernel
theorem dX5_metalInCases_26 : decode cX5_metalInCases 26 = .ok (.goto (-22), 3) := by decide +kernel
theorem dX5_metalInCases_29 : decode cX5_metalInCases 29 = .ok (.iload_n 1, 1) := by decide +kernel
theorem dX5_metalInCases_30 : decode cX5_metalInCases 30 = .ok (.ireturn, 1) := by decide +kernel
def rm_X5_metalInCases : Room := { frames := 3, cells := 0, slots := 0, locals := 67 }
set_option maxRecDepth 100000 in
set_option maxHeartbeats 4000000 in
theorem ok_X5_metalInCases_4 {E : Ev} {X : Xt} {l0 : Launch} {K : Int32 → Hp → Prop} (hC : Cx E X l0 RX5 cX5_metalInCases 3 rm_X5_metalInCases) (hQ : CQ E X "metalInCases" (some .int) rm_X5_metalInCases (KI K)) : ∀ (n : Nat) (a0 : Nat) (a1 : Int32) (a2 : Int32) (h : Hp), V_X5_metalInCases_4 K n a0 a1 a2 h → WW E X h 0 0 4 [some (rv a0), some (.int a1), some (.int a2)] [] := by
  intro n
  induction n with
  | zero => intro a0 a1 a2 h hV; exact hV.elim
  | succ n ih =>
    intro a0 a1 a2 h hV
    unfold V_X5_metalInCases_4 at hV
    refine r_iload_n hC dX5_metalInCases_4 rfl ?_
    refine r_bipush (v := 29) hC dX5_metalInCases_5 (by decide) ?_
    refine r_icmp_ge (tgt := 29) hC dX5_metalInCases_7 (by decide) (fun k9 => ?_) (fun k9 => ?_)
    · replace hV := hV.1 k9
      refine r_iload_n hC dX5_metalInCases_29 rfl ?_
      exact r_iret hC hQ dX5_metalInCases_30 (Nat.le_of_ble_eq_true rfl) (Nat.le_of_ble_eq_true rfl) ⟨_, rfl, hV⟩
    · replace hV := hV.2 k9
      refine r_iload_n hC dX5_metalInCases_10 rfl ?_
      refine r_aload_n hC dX5_metalInCases_11 rfl ?_
      refine r_iload_n hC dX5_metalInCases_12 rfl ?_
      obtain ⟨k9, hV⟩ := hV
      refine r_callV (ci := 5) (As := [.int a2]) hC dX5_metalInCases_13 rfl cf_X5_heldInAll ml_5_66 im_X5_heldInAll sl_X5_heldInAll lq_5 rfl rfl k9 rfl ⟨(Nat.le_of_ble_eq_true rfl), (Nat.le_of_ble_eq_true rfl), (Nat.le_of_ble_eq_true rfl), (Nat.le_of_ble_eq_true rfl)⟩ (csI cs0) (Nat.le_of_ble_eq_true rfl) (con_X5_heldInAll a0 a2 h _ hV) rfl (kI (k := 0) (n := 0) (fun r1 h1 hV => ?_))
      refine r_iload_n hC dX5_metalInCases_16 rfl ?_
      refine r_callSN (As := [.int a2]) hC dX5_metalInCases_17 rfl cf_X6_widthOf nl_5_62 st_X6_widthOf rfl ⟨(Nat.le_of_ble_eq_true rfl), (Nat.le_of_ble_eq_true rfl), (Nat.le_of_ble_eq_true rfl), (Nat.le_of_ble_eq_true rfl)⟩ (csI (csI cs0)) (Nat.le_of_ble_eq_true rfl) (con_X6_widthOf a2 h1 _ hV) rfl (kI (k := 0) (n := 0) (fun r2 h2 hV => ?_))
      refine r_imul hC dX5_metalInCases_20 ?_
      refine r_iadd hC dX5_metalInCases_21 ?_
      refine r_istore_n (ii := 1) (lo1 := [some (rv a0), some (.int (a1 + (r1 * r2))), some (.int a2)]) hC dX5_metalInCases_22 rfl (Nat.le_of_ble_eq_true rfl) (pvR rfl) rfl ?_
      refine r_iinc (v := 1) (lo1 := [some (rv a0), some (.int (a1 + (r1 * r2))), some (.int (a2 + 1))]) hC dX5_metalInCases_23 rfl (by decide) (pvI rfl) rfl ?_
      refine r_goto (tgt := 4) hC dX5_metalInCases_26 (by decide) ?_
      exact ih a0 (a1 + (r1 * r2)) (a2 + 1) h2 hV
set_option maxRecDepth 100000 in
set_option maxHeartbeats 4000000 in
theorem ok_X5_metalInCases_0 {E : Ev} {X : Xt} {l0 : Launch} {K : Int32 → Hp → Prop} (hC : Cx E X l0 RX5 cX5_metalInCases 3 rm_X5_metalInCases) (hQ : CQ E X "metalInCases" (some .int) rm_X5_metalInCases (KI K)) (a0 : Nat) (h : Hp) (hV : V_X5_metalInCases a0 h K) : WW E X h 0 0 0 [some (rv a0), none, none] [] := by
  unfold V_X5_metalInCases at hV
  refine r_iconst (v := 0) hC dX5_metalInCases_0 (by decide) ?_
  refine r_istore_n (ii := 1) (lo1 := [some (rv a0), some (.int 0), none]) hC dX5_metalInCases_1 rfl (Nat.le_of_ble_eq_true rfl) (pvR rfl) rfl ?_
  refine r_iconst (v := 0) hC dX5_metalInCases_2 (by decide) ?_
  refine r_istore_n (ii := 2) (lo1 := [some (rv a0), some (.int 0), some (.int 0)]) hC dX5_metalInCases_3 rfl (Nat.le_of_ble_eq_true rfl) (pvI rfl) rfl ?_
  obtain ⟨n9, hV⟩ := hV
  exact ok_X5_metalInCases_4 hC hQ n9 a0 0 0 h hV
set_option maxRecDepth 100000 in
set_option maxHeartbeats 4000000 in
theorem con_X5_metalInCases {E : Ev} {l0 : Launch} (a0 : Nat) (h : Hp) (K : Int32 → Hp → Prop) (hV : V_X5_metalInCases a0 h K) : Con E l0 yX5_metalInCases cX5_metalInCases 3 (some .int) rm_X5_metalInCases [rv a0] h (KI K) := by
  refine Con.of (by decide +kernel) (cat_R cat_nil) (Nat.le_of_ble_eq_true rfl) (fun X hC hQ => ?_)
  refine r_sub (lo1 := [some (rv a0), none, none]) (show lsub [some (rv a0), none, none] _ from ⟨Or.inr rfl, ⟨Or.inr rfl, ⟨Or.inr rfl, trivial⟩⟩⟩) ?_
  exact ok_X5_metalInCases_0 hC hQ a0 h hV
theorem dX5_metalInFormes_0 : decode cX5_metalInFormes 0 = .ok (.iconst 0, 1) := by decide +kernel
theorem dX5_metalInFormes_1 : decode cX5_metalInFormes 1 = .ok (.istore_n 1, 1) := by decide +kernel
theorem dX5_metalInFormes_2 : decode cX5_metalInFormes 2 = .ok (.iconst 0, 1) := by decide +kernel
theorem dX5_metalInFormes_3 : decode cX5_metalInFormes 3 = .ok (.istore_n 2, 1) := by decide +kernel
theorem dX5_metalInFormes_4 : decode cX5_metalInFormes 4 = .ok (.iload_n 2, 1) := by decide +kernel
theorem dX5_metalInFormes_5 : decode cX5_metalInFormes 5 = .ok (.bipush 12, 2) := by decide +kernel
theorem dX5_metalInFormes_7 : decode cX5_metalInFormes 7 = .ok (.if_icmp .ge 26, 3) := by decide +kernel
theorem dX5_metalInFormes_10 : decode cX5_metalInFormes 10 = .ok (.aload_n 0, 1) := by decide +kernel
theorem dX5_metalInFormes_11 : decode cX5_metalInFormes 11 = .ok (.iload_n 2, 1) := by decide +kernel
theorem dX5_metalInFormes_12 : decode cX5_metalInFormes 12 = .ok (.invokevirtual 69, 3) := by decide +kernel
theorem dX5_metalInFormes_15 : decode cX5_metalInFormes 15 = .ok (.astore_n 3, 1) := by decide +kernel
theorem dX5_metalInFormes_16 : decode cX5_metalInFormes 16 = .ok (.aload_n 3, 1) := by decide +kernel
theorem dX5_metalInFormes_17 : decode cX5_metalInFormes 17 = .ok (.ifnull 10, 3) := by decide +kernel
theorem dX5_metalInFormes_20 : decode cX5_metalInFormes 20 = .ok (.iload_n 1, 1) := by decide +kernel
theorem dX5_metalInFormes_21 : decode cX5_metalInFormes 21 = .ok (.aload_n 3, 1) := by decide +kernel
theorem dX5_metalInFormes_22 : decode cX5_metalInFormes 22 = .ok (.invokevirtual 73, 3) := by decide +kernel
theorem dX5_metalInFormes_25 : decode cX5_metalInFormes 25 = .ok (.iadd, 1) := by decide +kernel
theorem dX5_metalInFormes_26 : decode cX5_metalInFormes 26 = .ok (.istore_n 1, 1) := by decide +kernel
theorem dX5_metalInFormes_27 : decode cX5_metalInFormes 27 = .ok (.iinc 2 1, 3) := by decide +kernel
theorem dX5_metalInFormes_30 : decode cX5_metalInFormes 30 = .ok (.goto (-26), 3) := by decide +kernel
theorem dX5_metalInFormes_33 : decode cX5_metalInFormes 33 = .ok (.iload_n 1, 1) := by decide +kernel
theorem dX5_metalInFormes_34 : decode cX5_metalInFormes 34 = .ok (.ireturn, 1) := by decide +kernel
def rm_X5_metalInFormes : Room := { frames := 4, cells := 0, slots := 0, locals := 89 }
set_option maxRecDepth 100000 in
set_option maxHeartbeats 4000000 in
theorem ok_X5_metalInFormes_27 {E : Ev} {X : Xt} {l0 : Launch} {K : Int32 → Hp → Prop} {C4 : Nat → Int32 → Int32 → Hp → Prop} (hC : Cx E X l0 RX5 cX5_metalInFormes 4 rm_X5_metalInFormes) (hQ : CQ E X "metalInFormes" (some .int) rm_X5_metalInFormes (KI K)) (hC4 : ∀ (a0 : Nat) (a1 : Int32) (a2 : Int32) (h : Hp), C4 a0 a1 a2 h → WW E X h 0 0 4 [some (rv a0), some (.int a1), some (.int a2), none] []) (a0 : Nat) (a1 : Int32) (a2 : Int32) (h : Hp) (hV : V_X5_metalInFormes_27 K C4 a0 a1 a2 h) : WW E X h 0 0 27 [some (rv a0), some (.int a1), some (.int a2), none] [] := by
  unfold V_X5_metalInFormes_27 at hV
  refine r_iinc (v := 1) (lo1 := [some (rv a0), some (.int a1), some (.int (a2 + 1)), none]) hC dX5_metalInFormes_27 rfl (by decide) (pvI rfl) rfl ?_
  refine r_goto (tgt := 4) hC dX5_metalInFormes_30 (by decide) ?_
  exact hC4 a0 a1 (a2 + 1) h hV
set_option maxRecDepth 100000 in
set_option maxHeartbeats 4000000 in
theorem ok_X5_metalInFormes_4 {E : Ev} {X : Xt} {l0 : Launch} {K : Int32 → Hp → Prop} (hC : Cx E X l0 RX5 cX5_metalInFormes 4 rm_X5_metalInFormes) (hQ : CQ E X "metalInFormes" (some .int) rm_X5_metalInFormes (KI K)) : ∀ (n : Nat) (a0 : Nat) (a1 : Int32) (a2 : Int32) (h : Hp), V_X5_metalInFormes_4 K n a0 a1 a2 h → WW E X h 0 0 4 [some (rv a0), some (.int a1), some (.int a2), none] [] := by
  intro n
  induction n with
  | zero => intro a0 a1 a2 h hV; exact hV.elim
  | succ n ih =>
    intro a0 a1 a2 h hV
    unfold V_X5_metalInFormes_4 at hV
    refine r_iload_n hC dX5_metalInFormes_4 rfl ?_
    refine r_bipush (v := 12) hC dX5_metalInFormes_5 (by decide) ?_
    refine r_icmp_ge (tgt := 33) hC dX5_metalInFormes_7 (by decide) (fun k9 => ?_) (fun k9 => ?_)
    · replace hV := hV.1 k9
      refine r_iload_n hC dX5_metalInFormes_33 rfl ?_
      exact r_iret hC hQ dX5_metalInFormes_34 (Nat.le_of_ble_eq_true rfl) (Nat.le_of_ble_eq_true rfl) ⟨_, rfl, hV⟩
    · replace hV := hV.2 k9
      refine r_aload_n hC dX5_metalInFormes_10 rfl ?_
      refine r_iload_n hC dX5_metalInFormes_11 rfl ?_
      obtain ⟨k9, hV⟩ := hV
      refine r_callV (ci := 5) (As := [.int a2]) hC dX5_metalInFormes_12 rfl cf_X5_findJob ml_5_69 im_X5_findJob sl_X5_findJob lq_5 rfl rfl k9 rfl ⟨(Nat.le_of_ble_eq_true rfl), (Nat.le_of_ble_eq_true rfl), (Nat.le_of_ble_eq_true rfl), (Nat.le_of_ble_eq_true rfl)⟩ cs0 (Nat.le_of_ble_eq_true rfl) (con_X5_findJob a0 a2 h _ hV) rfl (kR (k := 0) (n := 0) (fun r1 h1 hV => ?_))
      refine r_astore_n (ii := 3) (lo1 := [some (rv a0), some (.int a1), some (.int a2), some (rv r1)]) hC dX5_metalInFormes_15 rfl (Nat.le_of_ble_eq_true rfl) (pvI rfl) rfl ?_
      refine r_aload_n hC dX5_metalInFormes_16 rfl ?_
      refine r_ifnull (tgt := 27) hC dX5_metalInFormes_17 (by decide) (fun k9 => ?_) (fun k9 => ?_)
      · replace hV := hV.1 k9
        refine r_sub (lo1 := [some (rv a0), some (.int a1), some (.int a2), none]) ⟨Or.inr rfl, ⟨Or.inr rfl, ⟨Or.inr rfl, ⟨Or.inl rfl, trivial⟩⟩⟩⟩ ?_
        exact ok_X5_metalInFormes_27 hC hQ ih a0 a1 a2 h1 hV
      · replace hV := hV.2 k9
        refine r_iload_n hC dX5_metalInFormes_20 rfl ?_
        refine r_aload_n hC dX5_metalInFormes_21 rfl ?_
        obtain ⟨k9, hV⟩ := hV
        refine r_callV (ci := 1) (As := []) hC dX5_metalInFormes_22 rfl cf_X1_formeMetal ml_5_73 im_X1_formeMetal sl_X1_formeMetal lq_1 rfl rfl k9 rfl ⟨(Nat.le_of_ble_eq_true rfl), (Nat.le_of_ble_eq_true rfl), (Nat.le_of_ble_eq_true rfl), (Nat.le_of_ble_eq_true rfl)⟩ (csI cs0) (Nat.le_of_ble_eq_true rfl) (con_X1_formeMetal r1 h1 _ hV) rfl (kI (k := 0) (n := 0) (fun r2 h2 hV => ?_))
        refine r_iadd hC dX5_metalInFormes_25 ?_
        refine r_istore_n (ii := 1) (lo1 := [some (rv a0), some (.int (a1 + r2)), some (.int a2), some (rv r1)]) hC dX5_metalInFormes_26 rfl (Nat.le_of_ble_eq_true rfl) (pvR rfl) rfl ?_
        refine r_sub (lo1 := [some (rv a0), some (.int (a1 + r2)), some (.int a2), none]) ⟨Or.inr rfl, ⟨Or.inr rfl, ⟨Or.inr rfl, ⟨Or.inl rfl, trivial⟩⟩⟩⟩ ?_
        exact ok_X5_metalInFormes_27 hC hQ ih a0 (a1 + r2) a2 h2 hV
set_option maxRecDepth 100000 in
set_option maxHeartbeats 4000000 in
theorem ok_X5_metalInFormes_0 {E : Ev} {X : Xt} {l0 : Launch} {K : Int32 → Hp → Prop} (hC : Cx E X l0 RX5 cX5_metalInFormes 4 rm_X5_metalInFormes) (hQ : CQ E X "metalInFormes" (some .int) rm_X5_metalInFormes (KI K)) (a0 : Nat) (h : Hp) (hV : V_X5_metalInFormes a0 h K) : WW E X h 0 0 0 [some (rv a0), none, none, none] [] := by
  unfold V_X5_metalInFormes at hV
  refine r_iconst (v := 0) hC dX5_metalInFormes_0 (by decide) ?_
  refine r_istore_n (ii := 1) (lo1 := [some (rv a0), some (.int 0), none, none]) hC dX5_metalInFormes_1 rfl (Nat.le_of_ble_eq_true rfl) (pvR rfl) rfl ?_
  refine r_iconst (v := 0) hC dX5_metalInFormes_2 (by decide) ?_
  refine r_istore_n (ii := 2) (lo1 := [some (rv a0), some (.int 0), some (.int 0), none]) hC dX5_metalInFormes_3 rfl (Nat.le_of_ble_eq_true rfl) (pvI rfl) rfl ?_
  obtain ⟨n9, hV⟩ := hV
  exact ok_X5_metalInFormes_4 hC hQ n9 a0 0 0 h hV
set_option maxRecDepth 100000 in
set_option maxHeartbeats 4000000 in
theorem con_X5_metalInFormes {E : Ev} {l0 : Launch} (a0 : Nat) (h : Hp) (K : Int32 → Hp → Prop) (hV : V_X5_metalInFormes a0 h K) : Con E l0 yX5_metalInFormes cX5_metalInFormes 4 (some .int) rm_X5_metalInFormes [rv a0] h (KI K) := by
  refine Con.of (by decide +kernel) (cat_R cat_nil) (Nat.le_of_ble_eq_true rfl) (fun X hC hQ => ?_)
  refine r_sub (lo1 := [some (rv a0), none, none, none]) (show lsub [some (rv a0), none, none, none] _ from ⟨Or.inr rfl, ⟨Or.inr rfl, ⟨Or.inr rfl, ⟨Or.inr rfl, trivial⟩⟩⟩⟩) ?_
  exact ok_X5_metalInFormes_0 hC hQ a0 h hV
theorem dX5_overdueJobs_0 : decode cX5_overdueJobs 0 = .ok (.iconst 0, 1) := by decide +kernel
theorem dX5_overdueJobs_1 : decode cX5_overdueJobs 1 = .ok (.istore_n 1, 1) := by decide +kernel
theorem dX5_overdueJobs_2 : decode cX5_overdueJobs 2 = .ok (.iconst 0, 1) := by decide +kernel
theorem dX5_overdueJobs_3 : decode cX5_overdueJobs 3 = .ok (.istore_n 2, 1) := by decide +kernel
theorem dX5_overdueJobs_4 : decode cX5_overdueJobs 4 = .ok (.iload_n 2, 1) := by decide +kernel
theorem dX5_overdueJobs_5 : decode cX5_overdueJobs 5 = .ok (.bipush 12, 2) := by decide +kernel
theorem dX5_overdueJobs_7 : decode cX5_overdueJobs 7 = .ok (.if_icmp .ge 43, 3) := by decide +kernel
theorem dX5_overdueJobs_10 : decode cX5_overdueJobs 10 = .ok (.aload_n 0, 1) := by decide +kernel
theorem dX5_overdueJobs_11 : decode cX5_overdueJobs 11 = .ok (.iload_n 2, 1) := by decide +kernel
theorem dX5_overdueJobs_12 : decode cX5_overdueJobs 12 = .ok (.invokevirtual 69, 3) := by decide +kernel
theorem dX5_overdueJobs_15 : decode cX5_overdueJobs 15 = .ok (.astore_n 3, 1) := by decide +kernel
theorem dX5_overdueJobs_16 : decode cX5_overdueJobs 16 = .ok (.aload_n 3, 1) := by decide +kernel
theorem dX5_overdueJobs_17 : decode cX5_overdueJobs 17 = .ok (.ifnull 27, 3) := by decide +kernel
theorem dX5_overdueJobs_20 : decode cX5_overdueJobs 20 = .ok (.aload_n 3, 1) := by decide +kernel
theorem dX5_overdueJobs_21 : decode cX5_overdueJobs 21 = .ok (.invokevirtual 83, 3) := by decide +kernel
theorem dX5_overdueJobs_24 : decode cX5_overdueJobs 24 = .ok (.ifCond .eq 20, 3) := by decide +kernel
theorem dX5_overdueJobs_27 : decode cX5_overdueJobs 27 = .ok (.aload_n 3, 1) := by decide +kernel
theorem dX5_overdueJobs_28 : decode cX5_overdueJobs 28 = .ok (.getfield 87, 3) := by decide +kernel
theorem dX5_overdueJobs_31 : decode cX5_overdueJobs 31 = .ok (.getfield 91, 3) := by decide +kernel
theorem dX5_overdueJobs_34 : decode cX5_overdueJobs 34 = .ok (.aload_n 0, 1) := by decide +kernel
theorem dX5_overdueJobs_35 : decode cX5_overdueJobs 35 = .ok (.getfield 34, 3) := by decide +kernel
theorem dX5_overdueJobs_38 : decode cX5_overdueJobs 38 = .ok (.if_icmp .ge 6, 3) := by decide +kernel
theorem dX5_overdueJobs_41 : decode cX5_overdueJobs 41 = .ok (.iinc 1 1, 3) := by decide +kernel
theorem dX5_overdueJobs_44 : decode cX5_overdueJobs 44 = .ok (.iinc 2 1, 3) := by decide +kernel
theorem dX5_overdueJobs_47 : decode cX5_overdueJobs 47 = .ok (.goto (-43), 3) := by decide +kernel
theorem dX5_overdueJobs_50 : decode cX5_overdueJobs 50 = .ok (.iload_n 1, 1) := by decide +kernel
theorem dX5_overdueJobs_51 : decode cX5_overdueJobs 51 = .ok (.ireturn, 1) := by decide +kernel
def rm_X5_overdueJobs : Room := { frames := 1, cells := 0, slots := 0, locals := 21 }
set_option maxRecDepth 100000 in
set_option maxHeartbeats 4000000 in
theorem ok_X5_overdueJobs_44 {E : Ev} {X : Xt} {l0 : Launch} {K : Int32 → Hp → Prop} {C4 : Nat → Int32 → Int32 → Hp → Prop} (hC : Cx E X l0 RX5 cX5_overdueJobs 4 rm_X5_overdueJobs) (hQ : CQ E X "overdueJobs" (some .int) rm_X5_overdueJobs (KI K)) (hC4 : ∀ (a0 : Nat) (a1 : Int32) (a2 : Int32) (h : Hp), C4 a0 a1 a2 h → WW E X h 0 0 4 [some (rv a0), some (.int a1), some (.int a2), none] []) (a0 : Nat) (a1 : Int32) (a2 : Int32) (h : Hp) (hV : V_X5_overdueJobs_44 K C4 a0 a1 a2 h) : WW E X h 0 0 44 [some (rv a0), some (.int a1), some (.int a2), none] [] := by
  unfold V_X5_overdueJobs_44 at hV
  refine r_iinc (v := 1) (lo1 := [some (rv a0), some (.int a1), some (.int (a2 + 1)), none]) hC dX5_overdueJobs_44 rfl (by decide) (pvI rfl) rfl ?_
  refine r_goto (tgt := 4) hC dX5_overdueJobs_47 (by decide) ?_
  exact hC4 a0 a1 (a2 + 1) h hV
set_option maxRecDepth 100000 in
set_option maxHeartbeats 4000000 in
theorem ok_X5_overdueJobs_4 {E : Ev} {X : Xt} {l0 : Launch} {K : Int32 → Hp → Prop} (hC : Cx E X l0 RX5 cX5_overdueJobs 4 rm_X5_overdueJobs) (hQ : CQ E X "overdueJobs" (some .int) rm_X5_overdueJobs (KI K)) : ∀ (n : Nat) (a0 : Nat) (a1 : Int32) (a2 : Int32) (h : Hp), V_X5_overdueJobs_4 K n a0 a1 a2 h → WW E X h 0 0 4 [some (rv a0), some (.int a1), some (.int a2), none] [] := by
  intro n
  induction n with
  | zero => intro a0 a1 a2 h hV; exact hV.elim
  | succ n ih =>
    intro a0 a1 a2 h hV
    unfold V_X5_overdueJobs_4 at hV
    refine r_iload_n hC dX5_overdueJobs_4 rfl ?_
    refine r_bipush (v := 12) hC dX5_overdueJobs_5 (by decide) ?_
    refine r_icmp_ge (tgt := 50) hC dX5_overdueJobs_7 (by decide) (fun k9 => ?_) (fun k9 => ?_)
    · replace hV := hV.1 k9
      refine r_iload_n hC dX5_overdueJobs_50 rfl ?_
      exact r_iret hC hQ dX5_overdueJobs_51 (Nat.le_of_ble_eq_true rfl) (Nat.le_of_ble_eq_true rfl) ⟨_, rfl, hV⟩
    · replace hV := hV.2 k9
      refine r_aload_n hC dX5_overdueJobs_10 rfl ?_
      refine r_iload_n hC dX5_overdueJobs_11 rfl ?_
      obtain ⟨k9, hV⟩ := hV
      refine r_callV (ci := 5) (As := [.int a2]) hC dX5_overdueJobs_12 rfl cf_X5_findJob ml_5_69 im_X5_findJob sl_X5_findJob lq_5 rfl rfl k9 rfl ⟨(Nat.le_of_ble_eq_true rfl), (Nat.le_of_ble_eq_true rfl), (Nat.le_of_ble_eq_true rfl), (Nat.le_of_ble_eq_true rfl)⟩ cs0 (Nat.le_of_ble_eq_true rfl) (con_X5_findJob a0 a2 h _ hV) rfl (kR (k := 0) (n := 0) (fun r1 h1 hV => ?_))
      refine r_astore_n (ii := 3) (lo1 := [some (rv a0), some (.int a1), some (.int a2), some (rv r1)]) hC dX5_overdueJobs_15 rfl (Nat.le_of_ble_eq_true rfl) (pvI rfl) rfl ?_
      refine r_aload_n hC dX5_overdueJobs_16 rfl ?_
      refine r_ifnull (tgt := 44) hC dX5_overdueJobs_17 (by decide) (fun k9 => ?_) (fun k9 => ?_)
      · replace hV := hV.1 k9
        refine r_sub (lo1 := [some (rv a0), some (.int a1), some (.int a2), none]) ⟨Or.inr rfl, ⟨Or.inr rfl, ⟨Or.inr rfl, ⟨Or.inl rfl, trivial⟩⟩⟩⟩ ?_
        exact ok_X5_overdueJobs_44 hC hQ ih a0 a1 a2 h1 hV
      · replace hV := hV.2 k9
        refine r_aload_n hC dX5_overdueJobs_20 rfl ?_
        obtain ⟨k9, hV⟩ := hV
        refine r_callV (ci := 1) (As := []) hC dX5_overdueJobs_21 rfl cf_X1_isOpen ml_5_83 im_X1_isOpen sl_X1_isOpen lq_1 rfl rfl k9 rfl ⟨(Nat.le_of_ble_eq_true rfl), (Nat.le_of_ble_eq_true rfl), (Nat.le_of_ble_eq_true rfl), (Nat.le_of_ble_eq_true rfl)⟩ cs0 (Nat.le_of_ble_eq_true rfl) (con_X1_isOpen r1 h1 _ hV) rfl (kI (k := 0) (n := 0) (fun r2 h2 hV => ?_))
        refine r_if_eq (tgt := 44) hC dX5_overdueJobs_24 (by decide) (fun k9 => ?_) (fun k9 => ?_)
        · replace hV := hV.1 k9
          refine r_sub (lo1 := [some (rv a0), some (.int a1), some (.int a2), none]) ⟨Or.inr rfl, ⟨Or.inr rfl, ⟨Or.inr rfl, ⟨Or.inl rfl, trivial⟩⟩⟩⟩ ?_
          exact ok_X5_overdueJobs_44 hC hQ ih a0 a1 a2 h2 hV
        · replace hV := hV.2 k9
          refine r_aload_n hC dX5_overdueJobs_27 rfl ?_
          obtain ⟨k9, hV⟩ := hV
          refine r_getR hC dX5_overdueJobs_28 fl_5_87 rf_1_0 lq_1 k9 ?_
          obtain ⟨k9, hV⟩ := hV
          refine r_getI hC dX5_overdueJobs_31 fl_5_91 rf_3_2 lq_3 k9 ?_
          refine r_aload_n hC dX5_overdueJobs_34 rfl ?_
          obtain ⟨k9, hV⟩ := hV
          refine r_getI hC dX5_overdueJobs_35 fl_5_34 rf_5_6 lq_5 k9 ?_
          refine r_icmp_ge (tgt := 44) hC dX5_overdueJobs_38 (by decide) (fun k9 => ?_) (fun k9 => ?_)
          · replace hV := hV.1 k9
            refine r_sub (lo1 := [some (rv a0), some (.int a1), some (.int a2), none]) ⟨Or.inr rfl, ⟨Or.inr rfl, ⟨Or.inr rfl, ⟨Or.inl rfl, trivial⟩⟩⟩⟩ ?_
            exact ok_X5_overdueJobs_44 hC hQ ih a0 a1 a2 h2 hV
          · replace hV := hV.2 k9
            refine r_iinc (v := 1) (lo1 := [some (rv a0), some (.int (a1 + 1)), some (.int a2), some (rv r1)]) hC dX5_overdueJobs_41 rfl (by decide) (pvR rfl) rfl ?_
            refine r_sub (lo1 := [some (rv a0), some (.int (a1 + 1)), some (.int a2), none]) ⟨Or.inr rfl, ⟨Or.inr rfl, ⟨Or.inr rfl, ⟨Or.inl rfl, trivial⟩⟩⟩⟩ ?_
            exact ok_X5_overdueJobs_44 hC hQ ih a0 (a1 + 1) a2 h2 hV
set_option maxRecDepth 100000 in
set_option maxHeartbeats 4000000 in
theorem ok_X5_overdueJobs_0 {E : Ev} {X : Xt} {l0 : Launch} {K : Int32 → Hp → Prop} (hC : Cx E X l0 RX5 cX5_overdueJobs 4 rm_X5_overdueJobs) (hQ : CQ E X "overdueJobs" (some .int) rm_X5_overdueJobs (KI K)) (a0 : Nat) (h : Hp) (hV : V_X5_overdueJobs a0 h K) : WW E X h 0 0 0 [some (rv a0), none, none, none] [] := by
  unfold V_X5_overdueJobs at hV
  refine r_iconst (v := 0) hC dX5_overdueJobs_0 (by decide) ?_
  refine r_istore_n (ii := 1) (lo1 := [some (rv a0), some (.int 0), none, none]) hC dX5_overdueJobs_1 rfl (Nat.le_of_ble_eq_true rfl) (pvR rfl) rfl ?_
  refine r_iconst (v := 0) hC dX5_overdueJobs_2 (by decide) ?_
  refine r_istore_n (ii := 2) (lo1 := [some (rv a0), some (.int 0), some (.int 0), none]) hC dX5_overdueJobs_3 rfl (Nat.le_of_ble_eq_true rfl) (pvI rfl) rfl ?_
  obtain ⟨n9, hV⟩ := hV
  exact ok_X5_overdueJobs_4 hC hQ n9 a0 0 0 h hV
set_option maxRecDepth 100000 in
set_option maxHeartbeats 4000000 in
theorem con_X5_overdueJobs {E : Ev} {l0 : Launch} (a0 : Nat) (h : Hp) (K : Int32 → Hp → Prop) (hV : V_X5_overdueJobs a0 h K) : Con E l0 yX5_overdueJobs cX5_overdueJobs 4 (some .int) rm_X5_overdueJobs [rv a0] h (KI K) := by
  refine Con.of (by decide +kernel) (cat_R cat_nil) (Nat.le_of_ble_eq_true rfl) (fun X hC hQ => ?_)
  refine r_sub (lo1 := [some (rv a0), none, none, none]) (show lsub [some (rv a0), none, none, none] _ from ⟨Or.inr rfl, ⟨Or.inr rfl, ⟨Or.inr rfl, ⟨Or.inr rfl, trivial⟩⟩⟩⟩) ?_
  exact ok_X5_overdueJobs_0 hC hQ a0 h hV
theorem dX5_put_0 : decode cX5_put 0 = .ok (.iload_n 1, 1) := by decide +kernel
theorem dX5_put_1 : decode cX5_put 1 = .ok (.iload_n 2, 1) := by decide +kernel
theorem dX5_put_2 : decode cX5_put 2 = .ok (.invokestatic 55, 3) := by decide +kernel
theorem dX5_put_5 : decode cX5_put 5 = .ok (.istore 4, 2) := by decide +kernel
theorem dX5_put_7 : decode cX5_put 7 = .ok (.iload 4, 2) := by decide +kernel
theorem dX5_put_9 : decode cX5_put 9 = .ok (.ifCond .lt 24, 3) := by decide +kernel
theorem dX5_put_12 : decode cX5_put 12 = .ok (.iload 4, 2) := by decide +kernel
theorem dX5_put_14 : decode cX5_put 14 = .ok (.aload_n 0, 1) := by decide +kernel
theorem dX5_put_15 : decode cX5_put 15 = .ok (.getfield 9, 3) := by decide +kernel
theorem dX5_put_18 : decode cX5_put 18 = .ok (.arraylength, 1) := by decide +kernel
theorem dX5_put_19 : decode cX5_put 19 = .ok (.if_icmp .ge 14, 3) := by decide +kernel
theorem dX5_put_22 : decode cX5_put 22 = .ok (.aload_n 0, 1) := by decide +kernel
theorem dX5_put_23 : decode cX5_put 23 = .ok (.getfield 9, 3) := by decide +kernel
theorem dX5_put_26 : decode cX5_put 26 = .ok (.iload 4, 2) := by decide +kernel
theorem dX5_put_28 : decode cX5_put 28 = .ok (.dup2, 1) := by decide +kernel
theorem dX5_put_29 : decode cX5_put 29 = .ok (.iaload, 1) := by decide +kernel
theorem dX5_put_30 : decode cX5_put 30 = .ok (.iload_n 3, 1) := by decide +kernel
theorem dX5_put_31 : decode cX5_put 31 = .ok (.iadd, 1) := by decide +kernel
theorem dX5_put_32 : decode cX5_put 32 = .ok (.iastore, 1) := by decide +kernel
theorem dX5_put_33 : decode cX5_put 33 = .ok (.return_, 1) := by decide +kernel
def rm_X5_put : Room := { frames := 1, cells := 0, slots := 0, locals := 21 }
set_option maxRecDepth 100000 in
set_option maxHeartbeats 4000000 in
theorem ok_X5_put_33 {E : Ev} {X : Xt} {l0 : Launch} {K : Hp → Prop} (hC : Cx E X l0 RX5 cX5_put 5 rm_X5_put) (hQ : CQ E X "put" none rm_X5_put (KV K)) (h : Hp) (hV : V_X5_put_33 K  h) : WW E X h 0 0 33 [none, none, none, none, none] [] := by
  unfold V_X5_put_33 at hV
  exact r_vret hC hQ dX5_put_33 (Nat.le_of_ble_eq_true rfl) (Nat.le_of_ble_eq_true rfl) ⟨rfl, hV⟩
set_option maxRecDepth 100000 in
set_option maxHeartbeats 4000000 in
theorem ok_X5_put_0 {E : Ev} {X : Xt} {l0 : Launch} {K : Hp → Prop} (hC : Cx E X l0 RX5 cX5_put 5 rm_X5_put) (hQ : CQ E X "put" none rm_X5_put (KV K)) (a0 : Nat) (a1 : Int32) (a2 : Int32) (a3 : Int32) (h : Hp) (hV : V_X5_put a0 a1 a2 a3 h K) : WW E X h 0 0 0 [some (rv a0), some (.int a1), some (.int a2), some (.int a3), none] [] := by
  unfold V_X5_put at hV
  refine r_iload_n hC dX5_put_0 rfl ?_
  refine r_iload_n hC dX5_put_1 rfl ?_
  refine r_callSN (As := [.int a1, .int a2]) hC dX5_put_2 rfl cf_X6_slotOf nl_5_55 st_X6_slotOf rfl ⟨(Nat.le_of_ble_eq_true rfl), (Nat.le_of_ble_eq_true rfl), (Nat.le_of_ble_eq_true rfl), (Nat.le_of_ble_eq_true rfl)⟩ cs0 (Nat.le_of_ble_eq_true rfl) (con_X6_slotOf a1 a2 h _ hV) rfl (kI (k := 0) (n := 0) (fun r1 h1 hV => ?_))
  refine r_istore (lo1 := [some (rv a0), some (.int a1), some (.int a2), some (.int a3), some (.int r1)]) hC dX5_put_5 (Nat.le_of_ble_eq_true rfl) (pvI rfl) rfl ?_
  refine r_iload hC dX5_put_7 rfl ?_
  refine r_if_lt (tgt := 33) hC dX5_put_9 (by decide) (fun k9 => ?_) (fun k9 => ?_)
  · replace hV := hV.1 k9
    refine r_sub (lo1 := [none, none, none, none, none]) ⟨Or.inl rfl, ⟨Or.inl rfl, ⟨Or.inl rfl, ⟨Or.inl rfl, ⟨Or.inl rfl, trivial⟩⟩⟩⟩⟩ ?_
    exact ok_X5_put_33 hC hQ  h1 hV
  · replace hV := hV.2 k9
    refine r_iload hC dX5_put_12 rfl ?_
    refine r_aload_n hC dX5_put_14 rfl ?_
    obtain ⟨k9, hV⟩ := hV
    refine r_getR hC dX5_put_15 fl_5_9 rf_5_0 lq_5 k9 ?_
    obtain ⟨k9, hV⟩ := hV
    refine r_alen (kd := 35) hC dX5_put_18 (by decide) k9 ?_
    refine r_icmp_ge (tgt := 33) hC dX5_put_19 (by decide) (fun k9 => ?_) (fun k9 => ?_)
    · replace hV := hV.1 k9
      refine r_sub (lo1 := [none, none, none, none, none]) ⟨Or.inl rfl, ⟨Or.inl rfl, ⟨Or.inl rfl, ⟨Or.inl rfl, ⟨Or.inl rfl, trivial⟩⟩⟩⟩⟩ ?_
      exact ok_X5_put_33 hC hQ  h1 hV
    · replace hV := hV.2 k9
      refine r_aload_n hC dX5_put_22 rfl ?_
      obtain ⟨k9, hV⟩ := hV
      refine r_getR hC dX5_put_23 fl_5_9 rf_5_0 lq_5 k9 ?_
      refine r_iload hC dX5_put_26 rfl ?_
      refine r_dup2 hC dX5_put_28 rfl (rv_cat _) ?_
      obtain ⟨k9, k8, hV⟩ := hV
      refine r_iald (kd := 35) hC dX5_put_29 (by decide) rfl k9 k8 ?_
      refine r_iload_n hC dX5_put_30 rfl ?_
      refine r_iadd hC dX5_put_31 ?_
      obtain ⟨k9, k8, hV⟩ := hV
      refine r_iast (kd := 35) hC dX5_put_32 (by decide) rfl k9 k8 (nmH (fun h2 k9 => ?_))
      replace hV := hV h2 k9
      refine r_sub (lo1 := [none, none, none, none, none]) ⟨Or.inl rfl, ⟨Or.inl rfl, ⟨Or.inl rfl, ⟨Or.inl rfl, ⟨Or.inl rfl, trivial⟩⟩⟩⟩⟩ ?_
      exact ok_X5_put_33 hC hQ  h2 hV
set_option maxRecDepth 100000 in
set_option maxHeartbeats 4000000 in
theorem con_X5_put {E : Ev} {l0 : Launch} (a0 : Nat) (a1 : Int32) (a2 : Int32) (a3 : Int32) (h : Hp) (K : Hp → Prop) (hV : V_X5_put a0 a1 a2 a3 h K) : Con E l0 yX5_put cX5_put 5 none rm_X5_put [rv a0, .int a1, .int a2, .int a3] h (KV K) := by
  refine Con.of (by decide +kernel) (cat_R (cat_I (cat_I (cat_I cat_nil)))) (Nat.le_of_ble_eq_true rfl) (fun X hC hQ => ?_)
  refine r_sub (lo1 := [some (rv a0), some (.int a1), some (.int a2), some (.int a3), none]) (show lsub [some (rv a0), some (.int a1), some (.int a2), some (.int a3), none] _ from ⟨Or.inr rfl, ⟨Or.inr rfl, ⟨Or.inr rfl, ⟨Or.inr rfl, ⟨Or.inr rfl, trivial⟩⟩⟩⟩⟩) ?_
  exact ok_X5_put_0 hC hQ a0 a1 a2 a3 h hV
theorem dX5_putJob_0 : decode cX5_putJob 0 = .ok (.iload_n 1, 1) := by decide +kernel
theorem dX5_putJob_1 : decode cX5_putJob 1 = .ok (.ifCond .lt 16, 3) := by decide +kernel
theorem dX5_putJob_4 : decode cX5_putJob 4 = .ok (.iload_n 1, 1) := by decide +kernel
theorem dX5_putJob_5 : decode cX5_putJob 5 = .ok (.bipush 12, 2) := by decide +kernel
theorem dX5_putJob_7 : decode cX5_putJob 7 = .ok (.if_icmp .ge 10, 3) := by decide +kernel
theorem dX5_putJob_10 : decode cX5_putJob 10 = .ok (.aload_n 0, 1) := by decide +kernel
theorem dX5_putJob_11 : decode cX5_putJob 11 = .ok (.getfield 20, 3) := by decide +kernel
theorem dX5_putJob_14 : decode cX5_putJob 14 = .ok (.iload_n 1, 1) := by decide +kernel
theorem dX5_putJob_15 : decode cX5_putJob 15 = .ok (.aload_n 2, 1) := by decide +kernel
theorem dX5_putJob_16 : decode cX5_putJob 16 = .ok (.aastore, 1) := by decide +kernel
theorem dX5_putJob_17 : decode cX5_putJob 17 = .ok (.return_, 1) := by decide +kernel
def rm_X5_putJob : Room := { frames := 0, cells := 0, slots := 0, locals := 0 }
set_option maxRecDepth 100000 in
set_option maxHeartbeats 4000000 in
theorem ok_X5_putJob_17 {E : Ev} {X : Xt} {l0 : Launch} {K : Hp → Prop} (hC : Cx E X l0 RX5 cX5_putJob 3 rm_X5_putJob) (hQ : CQ E X "putJob" none rm_X5_putJob (KV K)) (h : Hp) (hV : V_X5_putJob_17 K  h) : WW E X h 0 0 17 [none, none, none] [] := by
  unfold V_X5_putJob_17 at hV
  exact r_vret hC hQ dX5_putJob_17 (Nat.le_of_ble_eq_true rfl) (Nat.le_of_ble_eq_true rfl) ⟨rfl, hV⟩
set_option maxRecDepth 100000 in
set_option maxHeartbeats 4000000 in
theorem ok_X5_putJob_0 {E : Ev} {X : Xt} {l0 : Launch} {K : Hp → Prop} (hC : Cx E X l0 RX5 cX5_putJob 3 rm_X5_putJob) (hQ : CQ E X "putJob" none rm_X5_putJob (KV K)) (a0 : Nat) (a1 : Int32) (a2 : Nat) (h : Hp) (hV : V_X5_putJob a0 a1 a2 h K) : WW E X h 0 0 0 [some (rv a0), some (.int a1), some (rv a2)] [] := by
  unfold V_X5_putJob at hV
  refine r_iload_n hC dX5_putJob_0 rfl ?_
  refine r_if_lt (tgt := 17) hC dX5_putJob_1 (by decide) (fun k9 => ?_) (fun k9 => ?_)
  · replace hV := hV.1 k9
    refine r_sub (lo1 := [none, none, none]) ⟨Or.inl rfl, ⟨Or.inl rfl, ⟨Or.inl rfl, trivial⟩⟩⟩ ?_
    exact ok_X5_putJob_17 hC hQ  h hV
  · replace hV := hV.2 k9
    refine r_iload_n hC dX5_putJob_4 rfl ?_
    refine r_bipush (v := 12) hC dX5_putJob_5 (by decide) ?_
    refine r_icmp_ge (tgt := 17) hC dX5_putJob_7 (by decide) (fun k9 => ?_) (fun k9 => ?_)
    · replace hV := hV.1 k9
      refine r_sub (lo1 := [none, none, none]) ⟨Or.inl rfl, ⟨Or.inl rfl, ⟨Or.inl rfl, trivial⟩⟩⟩ ?_
      exact ok_X5_putJob_17 hC hQ  h hV
    · replace hV := hV.2 k9
      refine r_aload_n hC dX5_putJob_10 rfl ?_
      obtain ⟨k9, hV⟩ := hV
      refine r_getR hC dX5_putJob_11 fl_5_20 rf_5_2 lq_5 k9 ?_
      refine r_iload_n hC dX5_putJob_14 rfl ?_
      refine r_aload_n hC dX5_putJob_15 rfl ?_
      obtain ⟨k9, k8, k7, hV⟩ := hV
      refine r_aast (kd := 22) (d := 2) (ci := 1) hC dX5_putJob_16 (by decide) rfl (by decide) lq_1 rfl rfl k9 k8 k7 (nmH (fun h1 k9 => ?_))
      replace hV := hV h1 k9
      refine r_sub (lo1 := [none, none, none]) ⟨Or.inl rfl, ⟨Or.inl rfl, ⟨Or.inl rfl, trivial⟩⟩⟩ ?_
      exact ok_X5_putJob_17 hC hQ  h1 hV
set_option maxRecDepth 100000 in
set_option maxHeartbeats 4000000 in
theorem con_X5_putJob {E : Ev} {l0 : Launch} (a0 : Nat) (a1 : Int32) (a2 : Nat) (h : Hp) (K : Hp → Prop) (hV : V_X5_putJob a0 a1 a2 h K) : Con E l0 yX5_putJob cX5_putJob 3 none rm_X5_putJob [rv a0, .int a1, rv a2] h (KV K) := by
  refine Con.of (by decide +kernel) (cat_R (cat_I (cat_R cat_nil))) (Nat.le_of_ble_eq_true rfl) (fun X hC hQ => ?_)
  refine r_sub (lo1 := [some (rv a0), some (.int a1), some (rv a2)]) (show lsub [some (rv a0), some (.int a1), some (rv a2)] _ from ⟨Or.inr rfl, ⟨Or.inr rfl, ⟨Or.inr rfl, trivial⟩⟩⟩) ?_
  exact ok_X5_putJob_0 hC hQ a0 a1 a2 h hV
theorem dX5_wornMetal_0 : decode cX5_wornMetal 0 = .ok (.iconst 0, 1) := by decide +kernel
theorem dX5_wornMetal_1 : decode cX5_wornMetal 1 = .ok (.istore_n 1, 1) := by decide +kernel
theorem dX5_wornMetal_2 : decode cX5_wornMetal 2 = .ok (.iconst 0, 1) := by decide +kernel
theorem dX5_wornMetal_3 : decode cX5_wornMetal 3 = .ok (.istore_n 2, 1) := by decide +kernel
theorem dX5_wornMetal_4 : decode cX5_wornMetal 4 = .ok (.iload_n 2, 1) := by decide +kernel
theorem dX5_wornMetal_5 : decode cX5_wornMetal 5 = .ok (.bipush 29, 2) := by decide +kernel
theorem dX5_wornMetal_7 : decode cX5_wornMetal 7 = .ok (.if_icmp .ge 23, 3) := by decide +kernel
theorem dX5_wornMetal_10 : decode cX5_wornMetal 10 = .ok (.iload_n 1, 1) := by decide +kernel
theorem dX5_wornMetal_11 : decode cX5_wornMetal 11 = .ok (.aload_n 0, 1) := by decide +kernel
theorem dX5_wornMetal_12 : decode cX5_wornMetal 12 = .ok (.getfield 15, 3) := by decide +kernel
theorem dX5_wornMetal_15 : decode cX5_wornMetal 15 = .ok (.iload_n 2, 1) := by decide +kernel
theorem dX5_wornMetal_16 : decode cX5_wornMetal 16 = .ok (.iaload, 1) := by decide +kernel
theorem dX5_wornMetal_17 : decode cX5_wornMetal 17 = .ok (.iload_n 2, 1) := by decide +kernel
theorem dX5_wornMetal_18 : decode cX5_wornMetal 18 = .ok (.invokestatic 62, 3) := by decide +kernel
theorem dX5_wornMetal_21 : decode cX5_wornMetal 21 = .ok (.imul, 1) := by decide +kernel
theorem dX5_wornMetal_22 : decode cX5_wornMetal 22 = .ok (.iadd, 1) := by decide +kernel
theorem dX5_wornMetal_23 : decode cX5_wornMetal 23 = .ok (.istore_n 1, 1) := by decide +kernel
theorem dX5_wornMetal_24 : decode cX5_wornMetal 24 = .ok (.iinc 2 1, 3) := by decide +kernel
theorem dX5_wornMetal_27 : decode cX5_wornMetal 27 = .ok (.goto (-23), 3) := by decide +kernel
theorem dX5_wornMetal_30 : decode cX5_wornMetal 30 = .ok (.iload_n 1, 1) := by decide +kernel
theorem dX5_wornMetal_31 : decode cX5_wornMetal 31 = .ok (.ireturn, 1) := by decide +kernel
def rm_X5_wornMetal : Room := { frames := 1, cells := 0, slots := 0, locals := 20 }
set_option maxRecDepth 100000 in
set_option maxHeartbeats 4000000 in
theorem ok_X5_wornMetal_4 {E : Ev} {X : Xt} {l0 : Launch} {K : Int32 → Hp → Prop} (hC : Cx E X l0 RX5 cX5_wornMetal 3 rm_X5_wornMetal) (hQ : CQ E X "wornMetal" (some .int) rm_X5_wornMetal (KI K)) : ∀ (n : Nat) (a0 : Nat) (a1 : Int32) (a2 : Int32) (h : Hp), V_X5_wornMetal_4 K n a0 a1 a2 h → WW E X h 0 0 4 [some (rv a0), some (.int a1), some (.int a2)] [] := by
  intro n
  induction n with
  | zero => intro a0 a1 a2 h hV; exact hV.elim
  | succ n ih =>
    intro a0 a1 a2 h hV
    unfold V_X5_wornMetal_4 at hV
    refine r_iload_n hC dX5_wornMetal_4 rfl ?_
    refine r_bipush (v := 29) hC dX5_wornMetal_5 (by decide) ?_
    refine r_icmp_ge (tgt := 30) hC dX5_wornMetal_7 (by decide) (fun k9 => ?_) (fun k9 => ?_)
    · replace hV := hV.1 k9
      refine r_iload_n hC dX5_wornMetal_30 rfl ?_
      exact r_iret hC hQ dX5_wornMetal_31 (Nat.le_of_ble_eq_true rfl) (Nat.le_of_ble_eq_true rfl) ⟨_, rfl, hV⟩
    · replace hV := hV.2 k9
      refine r_iload_n hC dX5_wornMetal_10 rfl ?_
      refine r_aload_n hC dX5_wornMetal_11 rfl ?_
      obtain ⟨k9, hV⟩ := hV
      refine r_getR hC dX5_wornMetal_12 fl_5_15 rf_5_1 lq_5 k9 ?_
      refine r_iload_n hC dX5_wornMetal_15 rfl ?_
      obtain ⟨k9, k8, hV⟩ := hV
      refine r_iald (kd := 36) hC dX5_wornMetal_16 (by decide) rfl k9 k8 ?_
      refine r_iload_n hC dX5_wornMetal_17 rfl ?_
      refine r_callSN (As := [.int a2]) hC dX5_wornMetal_18 rfl cf_X6_widthOf nl_5_62 st_X6_widthOf rfl ⟨(Nat.le_of_ble_eq_true rfl), (Nat.le_of_ble_eq_true rfl), (Nat.le_of_ble_eq_true rfl), (Nat.le_of_ble_eq_true rfl)⟩ (csI (csI cs0)) (Nat.le_of_ble_eq_true rfl) (con_X6_widthOf a2 h _ hV) rfl (kI (k := 0) (n := 0) (fun r1 h1 hV => ?_))
      refine r_imul hC dX5_wornMetal_21 ?_
      refine r_iadd hC dX5_wornMetal_22 ?_
      refine r_istore_n (ii := 1) (lo1 := [some (rv a0), some (.int (a1 + ((hI h (hR h a0 1) (ix a2)) * r1))), some (.int a2)]) hC dX5_wornMetal_23 rfl (Nat.le_of_ble_eq_true rfl) (pvR rfl) rfl ?_
      refine r_iinc (v := 1) (lo1 := [some (rv a0), some (.int (a1 + ((hI h (hR h a0 1) (ix a2)) * r1))), some (.int (a2 + 1))]) hC dX5_wornMetal_24 rfl (by decide) (pvI rfl) rfl ?_
      refine r_goto (tgt := 4) hC dX5_wornMetal_27 (by decide) ?_
      exact ih a0 (a1 + ((hI h (hR h a0 1) (ix a2)) * r1)) (a2 + 1) h1 hV
set_option maxRecDepth 100000 in
set_option maxHeartbeats 4000000 in
theorem ok_X5_wornMetal_0 {E : Ev} {X : Xt} {l0 : Launch} {K : Int32 → Hp → Prop} (hC : Cx E X l0 RX5 cX5_wornMetal 3 rm_X5_wornMetal) (hQ : CQ E X "wornMetal" (some .int) rm_X5_wornMetal (KI K)) (a0 : Nat) (h : Hp) (hV : V_X5_wornMetal a0 h K) : WW E X h 0 0 0 [some (rv a0), none, none] [] := by
  unfold V_X5_wornMetal at hV
  refine r_iconst (v := 0) hC dX5_wornMetal_0 (by decide) ?_
  refine r_istore_n (ii := 1) (lo1 := [some (rv a0), some (.int 0), none]) hC dX5_wornMetal_1 rfl (Nat.le_of_ble_eq_true rfl) (pvR rfl) rfl ?_
  refine r_iconst (v := 0) hC dX5_wornMetal_2 (by decide) ?_
  refine r_istore_n (ii := 2) (lo1 := [some (rv a0), some (.int 0), some (.int 0)]) hC dX5_wornMetal_3 rfl (Nat.le_of_ble_eq_true rfl) (pvI rfl) rfl ?_
  obtain ⟨n9, hV⟩ := hV
  exact ok_X5_wornMetal_4 hC hQ n9 a0 0 0 h hV
set_option maxRecDepth 100000 in
set_option maxHeartbeats 4000000 in
theorem con_X5_wornMetal {E : Ev} {l0 : Launch} (a0 : Nat) (h : Hp) (K : Int32 → Hp → Prop) (hV : V_X5_wornMetal a0 h K) : Con E l0 yX5_wornMetal cX5_wornMetal 3 (some .int) rm_X5_wornMetal [rv a0] h (KI K) := by
  refine Con.of (by decide +kernel) (cat_R cat_nil) (Nat.le_of_ble_eq_true rfl) (fun X hC hQ => ?_)
  refine r_sub (lo1 := [some (rv a0), none, none]) (show lsub [some (rv a0), none, none] _ from ⟨Or.inr rfl, ⟨Or.inr rfl, ⟨Or.inr rfl, trivial⟩⟩⟩) ?_
  exact ok_X5_wornMetal_0 hC hQ a0 h hV
theorem dX5_wornPieces_0 : decode cX5_wornPieces 0 = .ok (.iconst 0, 1) := by decide +kernel
theorem dX5_wornPieces_1 : decode cX5_wornPieces 1 = .ok (.istore_n 1, 1) := by decide +kernel
theorem dX5_wornPieces_2 : decode cX5_wornPieces 2 = .ok (.iconst 0, 1) := by decide +kernel
theorem dX5_wornPieces_3 : decode cX5_wornPieces 3 = .ok (.istore_n 2, 1) := by decide +kernel
theorem dX5_wornPieces_4 : decode cX5_wornPieces 4 = .ok (.iload_n 2, 1) := by decide +kernel
theorem dX5_wornPieces_5 : decode cX5_wornPieces 5 = .ok (.bipush 29, 2) := by decide +kernel
theorem dX5_wornPieces_7 : decode cX5_wornPieces 7 = .ok (.if_icmp .ge 18, 3) := by decide +kernel
theorem dX5_wornPieces_10 : decode cX5_wornPieces 10 = .ok (.iload_n 1, 1) := by decide +kernel
theorem dX5_wornPieces_11 : decode cX5_wornPieces 11 = .ok (.aload_n 0, 1) := by decide +kernel
theorem dX5_wornPieces_12 : decode cX5_wornPieces 12 = .ok (.getfield 15, 3) := by decide +kernel
theorem dX5_wornPieces_15 : decode cX5_wornPieces 15 = .ok (.iload_n 2, 1) := by decide +kernel
theorem dX5_wornPieces_16 : decode cX5_wornPieces 16 = .ok (.iaload, 1) := by decide +kernel
theorem dX5_wornPieces_17 : decode cX5_wornPieces 17 = .ok (.iadd, 1) := by decide +kernel
theorem dX5_wornPieces_18 : decode cX5_wornPieces 18 = .ok (.istore_n 1, 1) := by decide +kernel
theorem dX5_wornPieces_19 : decode cX5_wornPieces 19 = .ok (.iinc 2 1, 3) := by decide +kernel
theorem dX5_wornPieces_22 : decode cX5_wornPieces 22 = .ok (.goto (-18), 3) := by decide +kernel
theorem dX5_wornPieces_25 : decode cX5_wornPieces 25 = .ok (.iload_n 1, 1) := by decide +kernel
theorem dX5_wornPieces_26 : decode cX5_wornPieces 26 = .ok (.ireturn, 1) := by decide +kernel
def rm_X5_wornPieces : Room := { frames := 0, cells := 0, slots := 0, locals := 0 }
set_option maxRecDepth 100000 in
set_option maxHeartbeats 4000000 in
theorem ok_X5_wornPieces_4 {E : Ev} {X : Xt} {l0 : Launch} {K : Int32 → Hp → Prop} (hC : Cx E X l0 RX5 cX5_wornPieces 3 rm_X5_wornPieces) (hQ : CQ E X "wornPieces" (some .int) rm_X5_wornPieces (KI K)) : ∀ (n : Nat) (a0 : Nat) (a1 : Int32) (a2 : Int32) (h : Hp), V_X5_wornPieces_4 K n a0 a1 a2 h → WW E X h 0 0 4 [some (rv a0), some (.int a1), some (.int a2)] [] := by
  intro n
  induction n with
  | zero => intro a0 a1 a2 h hV; exact hV.elim
  | succ n ih =>
    intro a0 a1 a2 h hV
    unfold V_X5_wornPieces_4 at hV
    refine r_iload_n hC dX5_wornPieces_4 rfl ?_
    refine r_bipush (v := 29) hC dX5_wornPieces_5 (by decide) ?_
    refine r_icmp_ge (tgt := 25) hC dX5_wornPieces_7 (by decide) (fun k9 => ?_) (fun k9 => ?_)
    · replace hV := hV.1 k9
      refine r_iload_n hC dX5_wornPieces_25 rfl ?_
      exact r_iret hC hQ dX5_wornPieces_26 (Nat.le_of_ble_eq_true rfl) (Nat.le_of_ble_eq_true rfl) ⟨_, rfl, hV⟩
    · replace hV := hV.2 k9
      refine r_iload_n hC dX5_wornPieces_10 rfl ?_
      refine r_aload_n hC dX5_wornPieces_11 rfl ?_
      obtain ⟨k9, hV⟩ := hV
      refine r_getR hC dX5_wornPieces_12 fl_5_15 rf_5_1 lq_5 k9 ?_
      refine r_iload_n hC dX5_wornPieces_15 rfl ?_
      obtain ⟨k9, k8, hV⟩ := hV
      refine r_iald (kd := 36) hC dX5_wornPieces_16 (by decide) rfl k9 k8 ?_
      refine r_iadd hC dX5_wornPieces_17 ?_
      refine r_istore_n (ii := 1) (lo1 := [some (rv a0), some (.int (a1 + (hI h (hR h a0 1) (ix a2)))), some (.int a2)]) hC dX5_wornPieces_18 rfl (Nat.le_of_ble_eq_true rfl) (pvR rfl) rfl ?_
      refine r_iinc (v := 1) (lo1 := [some (rv a0), some (.int (a1 + (hI h (hR h a0 1) (ix a2)))), some (.int (a2 + 1))]) hC dX5_wornPieces_19 rfl (by decide) (pvI rfl) rfl ?_
      refine r_goto (tgt := 4) hC dX5_wornPieces_22 (by decide) ?_
      exact ih a0 (a1 + (hI h (hR h a0 1) (ix a2))) (a2 + 1) h hV
set_option maxRecDepth 100000 in
set_option maxHeartbeats 4000000 in
theorem ok_X5_wornPieces_0 {E : Ev} {X : Xt} {l0 : Launch} {K : Int32 → Hp → Prop} (hC : Cx E X l0 RX5 cX5_wornPieces 3 rm_X5_wornPieces) (hQ : CQ E X "wornPieces" (some .int) rm_X5_wornPieces (KI K)) (a0 : Nat) (h : Hp) (hV : V_X5_wornPieces a0 h K) : WW E X h 0 0 0 [some (rv a0), none, none] [] := by
  unfold V_X5_wornPieces at hV
  refine r_iconst (v := 0) hC dX5_wornPieces_0 (by decide) ?_
  refine r_istore_n (ii := 1) (lo1 := [some (rv a0), some (.int 0), none]) hC dX5_wornPieces_1 rfl (Nat.le_of_ble_eq_true rfl) (pvR rfl) rfl ?_
  refine r_iconst (v := 0) hC dX5_wornPieces_2 (by decide) ?_
  refine r_istore_n (ii := 2) (lo1 := [some (rv a0), some (.int 0), some (.int 0)]) hC dX5_wornPieces_3 rfl (Nat.le_of_ble_eq_true rfl) (pvI rfl) rfl ?_
  obtain ⟨n9, hV⟩ := hV
  exact ok_X5_wornPieces_4 hC hQ n9 a0 0 0 h hV
set_option maxRecDepth 100000 in
set_option maxHeartbeats 4000000 in
theorem con_X5_wornPieces {E : Ev} {l0 : Launch} (a0 : Nat) (h : Hp) (K : Int32 → Hp → Prop) (hV : V_X5_wornPieces a0 h K) : Con E l0 yX5_wornPieces cX5_wornPieces 3 (some .int) rm_X5_wornPieces [rv a0] h (KI K) := by
  refine Con.of (by decide +kernel) (cat_R cat_nil) (Nat.le_of_ble_eq_true rfl) (fun X hC hQ => ?_)
  refine r_sub (lo1 := [some (rv a0), none, none]) (show lsub [some (rv a0), none, none] _ from ⟨Or.inr rfl, ⟨Or.inr rfl, ⟨Or.inr rfl, trivial⟩⟩⟩) ?_
  exact ok_X5_wornPieces_0 hC hQ a0 h hV
theorem dX6_dropOldestState_0 : decode cX6_dropOldestState 0 = .ok (.aload_n 0, 1) := by decide +kernel
theorem dX6_dropOldestState_1 : decode cX6_dropOldestState 1 = .ok (.getfield 23, 3) := by decide +kernel
theorem dX6_dropOldestState_4 : decode cX6_dropOldestState 4 = .ok (.iconst 0, 1) := by decide +kernel
theorem dX6_dropOldestState_5 : decode cX6_dropOldestState 5 = .ok (.aaload, 1) := by decide +kernel
theorem dX6_dropOldestState_6 : decode cX6_dropOldestState 6 = .ok (.astore_n 1, 1) := by decide +kernel
theorem dX6_dropOldestState_7 : decode cX6_dropOldestState 7 = .ok (.iconst 1, 1) := by decide +kernel
theorem dX6_dropOldestState_8 : decode cX6_dropOldestState 8 = .ok (.istore_n 2, 1) := by decide +kernel
theorem dX6_dropOldestState_9 : decode cX6_dropOldestState 9 = .ok (.iload_n 2, 1) := by decide +kernel
theorem dX6_dropOldestState_10 : decode cX6_dropOldestState 10 = .ok (.aload_n 0, 1) := by decide +kernel
theorem dX6_dropOldestState_11 : decode cX6_dropOldestState 11 = .ok (.getfield 23, 3) := by decide +kernel
theorem dX6_dropOldestState_14 : decode cX6_dropOldestState 14 = .ok (.arraylength, 1) := by decide +kernel
theorem dX6_dropOldestState_15 : decode cX6_dropOldestState 15 = .ok (.if_icmp .ge 23, 3) := by decide +kernel
theorem dX6_dropOldestState_18 : decode cX6_dropOldestState 18 = .ok (.aload_n 0, 1) := by decide +kernel
theorem dX6_dropOldestState_19 : decode cX6_dropOldestState 19 = .ok (.getfield 23, 3) := by decide +kernel
theorem dX6_dropOldestState_22 : decode cX6_dropOldestState 22 = .ok (.iload_n 2, 1) := by decide +kernel
theorem dX6_dropOldestState_23 : decode cX6_dropOldestState 23 = .ok (.iconst 1, 1) := by decide +kernel
theorem dX6_dropOldestState_24 : decode cX6_dropOldestState 24 = .ok (.isub, 1) := by decide +kernel
theorem dX6_dropOldestState_25 : decode cX6_dropOldestState 25 = .ok (.aload_n 0, 1) := by decide +kernel
theorem dX6_dropOldestState_26 : decode cX6_dropOldestState 26 = .ok (.getfield 23, 3) := by decide +kernel
theorem dX6_dropOldestState_29 : decode cX6_dropOldestState 29 = .ok (.iload_n 2, 1) := by decide +kernel
theorem dX6_dropOldestState_30 : decode cX6_dropOldestState 30 = .ok (.aaload, 1) := by decide +kernel
theorem dX6_dropOldestState_31 : decode cX6_dropOldestState 31 = .ok (.aastore, 1) := by decide +kernel
theorem dX6_dropOldestState_32 : decode cX6_dropOldestState 32 = .ok (.iinc 2 1, 3) := by decide +kernel
theorem dX6_dropOldestState_35 : decode cX6_dropOldestState 35 = .ok (.goto (-26), 3) := by decide +kernel
theorem dX6_dropOldestState_38 : decode cX6_dropOldestState 38 = .ok (.aload_n 0, 1) := by decide +kernel
theorem dX6_dropOldestState_39 : decode cX6_dropOldestState 39 = .ok (.getfield 23, 3) := by decide +kernel
theorem dX6_dropOldestState_42 : decode cX6_dropOldestState 42 = .ok (.aload_n 0, 1) := by decide +kernel
theorem dX6_dropOldestState_43 : decode cX6_dropOldestState 43 = .ok (.getfield 23, 3) := by decide +kernel
theorem dX6_dropOldestState_46 : decode cX6_dropOldestState 46 = .ok (.arraylength, 1) := by decide +kernel
theorem dX6_dropOldestState_47 : decode cX6_dropOldestState 47 = .ok (.iconst 1, 1) := by decide +kernel
theorem dX6_dropOldestState_48 : decode cX6_dropOldestState 48 = .ok (.isub, 1) := by decide +kernel
theorem dX6_dropOldestState_49 : decode cX6_dropOldestState 49 = .ok (.aload_n 1, 1) := by decide +kernel
theorem dX6_dropOldestState_50 : decode cX6_dropOldestState 50 = .ok (.aastore, 1) := by decide +kernel
theorem dX6_dropOldestState_51 : decode cX6_dropOldestState 51 = .ok (.aload_n 0, 1) := by decide +kernel
theorem dX6_dropOldestState_52 : decode cX6_dropOldestState 52 = .ok (.dup, 1) := by decide +kernel
theorem dX6_dropOldestState_53 : decode cX6_dropOldestState 53 = .ok (.getfield 27, 3) := by decide +kernel
theorem dX6_dropOldestState_56 : decode cX6_dropOldestState 56 = .ok (.iconst 1, 1) := by decide +kernel
theorem dX6_dropOldestState_57 : decode cX6_dropOldestState 57 = .ok (.isub, 1) := by decide +kernel
theorem dX6_dropOldestState_58 : decode cX6_dropOldestState 58 = .ok (.putfield 27, 3) := by decide +kernel
theorem dX6_dropOldestState_61 : decode cX6_dropOldestState 61 = .ok (.return_, 1) := by decide +kernel
def rm_X6_dropOldestState : Room := { frames := 0, cells := 0, slots := 0, locals := 0 }
set_option maxRecDepth 100000 in
set_option maxHeartbeats 4000000 in
theorem ok_X6_dropOldestState_9 {E : Ev} {X : Xt} {l0 : Launch} {K : Hp → Prop} (hC : Cx E X l0 RX6 cX6_dropOldestState 3 rm_X6_dropOldestState) (hQ : CQ E X "dropOldestState" none rm_X6_dropOldestState (KV K)) : ∀ (n : Nat) (a0 : Nat) (a1 : Nat) (a2 : Int32) (h : Hp), V_X6_dropOldestState_9 K n a0 a1 a2 h → WW E X h 0 0 9 [some (rv a0), some (rv a1), some (.int a2)] [] := by
  intro n
  induction n with
  | zero => intro a0 a1 a2 h hV; exact hV.elim
  | succ n ih =>
    intro a0 a1 a2 h hV
    unfold V_X6_dropOldestState_9 at hV
    refine r_iload_n hC dX6_dropOldestState_9 rfl ?_
    refine r_aload_n hC dX6_dropOldestState_10 rfl ?_
    obtain ⟨k9, hV⟩ := hV
    refine r_getR hC dX6_dropOldestState_11 fl_6_23 rf_6_2 lq_6 k9 ?_
    obtain ⟨k9, hV⟩ := hV
    refine r_alen (kd := 23) hC dX6_dropOldestState_14 (by decide) k9 ?_
    refine r_icmp_ge (tgt := 38) hC dX6_dropOldestState_15 (by decide) (fun k9 => ?_) (fun k9 => ?_)
    · replace hV := hV.1 k9
      refine r_aload_n hC dX6_dropOldestState_38 rfl ?_
      obtain ⟨k9, hV⟩ := hV
      refine r_getR hC dX6_dropOldestState_39 fl_6_23 rf_6_2 lq_6 k9 ?_
      refine r_aload_n hC dX6_dropOldestState_42 rfl ?_
      obtain ⟨k9, hV⟩ := hV
      refine r_getR hC dX6_dropOldestState_43 fl_6_23 rf_6_2 lq_6 k9 ?_
      obtain ⟨k9, hV⟩ := hV
      refine r_alen (kd := 23) hC dX6_dropOldestState_46 (by decide) k9 ?_
      refine r_iconst (v := 1) hC dX6_dropOldestState_47 (by decide) ?_
      refine r_isub hC dX6_dropOldestState_48 ?_
      refine r_aload_n hC dX6_dropOldestState_49 rfl ?_
      obtain ⟨k9, k8, k7, hV⟩ := hV
      refine r_aast (kd := 23) (d := 3) (ci := 5) hC dX6_dropOldestState_50 (by decide) rfl (by decide) lq_5 rfl rfl k9 k8 k7 (nmH (fun h1 k9 => ?_))
      replace hV := hV h1 k9
      refine r_aload_n hC dX6_dropOldestState_51 rfl ?_
      refine r_dup hC dX6_dropOldestState_52 (rv_cat _) ?_
      obtain ⟨k9, hV⟩ := hV
      refine r_getI hC dX6_dropOldestState_53 fl_6_27 rf_6_3 lq_6 k9 ?_
      refine r_iconst (v := 1) hC dX6_dropOldestState_56 (by decide) ?_
      refine r_isub hC dX6_dropOldestState_57 ?_
      obtain ⟨k9, hV⟩ := hV
      refine r_putI hC dX6_dropOldestState_58 fl_6_27 ft_6 rfl rf_6_3 ty_6_3 lq_6 k9 (nmH (fun h2 k9 => ?_))
      replace hV := hV h2 k9
      exact r_vret hC hQ dX6_dropOldestState_61 (Nat.le_of_ble_eq_true rfl) (Nat.le_of_ble_eq_true rfl) ⟨rfl, hV⟩
    · replace hV := hV.2 k9
      refine r_aload_n hC dX6_dropOldestState_18 rfl ?_
      obtain ⟨k9, hV⟩ := hV
      refine r_getR hC dX6_dropOldestState_19 fl_6_23 rf_6_2 lq_6 k9 ?_
      refine r_iload_n hC dX6_dropOldestState_22 rfl ?_
      refine r_iconst (v := 1) hC dX6_dropOldestState_23 (by decide) ?_
      refine r_isub hC dX6_dropOldestState_24 ?_
      refine r_aload_n hC dX6_dropOldestState_25 rfl ?_
      obtain ⟨k9, hV⟩ := hV
      refine r_getR hC dX6_dropOldestState_26 fl_6_23 rf_6_2 lq_6 k9 ?_
      refine r_iload_n hC dX6_dropOldestState_29 rfl ?_
      obtain ⟨k9, k8, hV⟩ := hV
      refine r_aald (kd := 23) (d := 3) hC dX6_dropOldestState_30 (by decide) rfl (by decide) k9 k8 ?_
      obtain ⟨k9, k8, k7, hV⟩ := hV
      refine r_aast (kd := 23) (d := 3) (ci := 5) hC dX6_dropOldestState_31 (by decide) rfl (by decide) lq_5 rfl rfl k9 k8 k7 (nmH (fun h1 k9 => ?_))
      replace hV := hV h1 k9
      refine r_iinc (v := 1) (lo1 := [some (rv a0), some (rv a1), some (.int (a2 + 1))]) hC dX6_dropOldestState_32 rfl (by decide) (pvR rfl) rfl ?_
      refine r_goto (tgt := 9) hC dX6_dropOldestState_35 (by decide) ?_
      exact ih a0 a1 (a2 + 1) h1 hV
set_option maxRecDepth 100000 in
set_option maxHeartbeats 4000000 in
theorem ok_X6_dropOldestState_0 {E : Ev} {X : Xt} {l0 : Launch} {K : Hp → Prop} (hC : Cx E X l0 RX6 cX6_dropOldestState 3 rm_X6_dropOldestState) (hQ : CQ E X "dropOldestState" none rm_X6_dropOldestState (KV K)) (a0 : Nat) (h : Hp) (hV : V_X6_dropOldestState a0 h K) : WW E X h 0 0 0 [some (rv a0), none, none] [] := by
  unfold V_X6_dropOldestState at hV
  refine r_aload_n hC dX6_dropOldestState_0 rfl ?_
  obtain ⟨k9, hV⟩ := hV
  refine r_getR hC dX6_dropOldestState_1 fl_6_23 rf_6_2 lq_6 k9 ?_
  refine r_iconst (v := 0) hC dX6_dropOldestState_4 (by decide) ?_
  obtain ⟨k9, k8, hV⟩ := hV
  refine r_aald (kd := 23) (d := 3) hC dX6_dropOldestState_5 (by decide) rfl (by decide) k9 k8 ?_
  refine r_astore_n (ii := 1) (lo1 := [some (rv a0), some (rv (hR h (hR h a0 2) (ix 0))), none]) hC dX6_dropOldestState_6 rfl (Nat.le_of_ble_eq_true rfl) (pvR rfl) rfl ?_
  refine r_iconst (v := 1) hC dX6_dropOldestState_7 (by decide) ?_
  refine r_istore_n (ii := 2) (lo1 := [some (rv a0), some (rv (hR h (hR h a0 2) (ix 0))), some (.int 1)]) hC dX6_dropOldestState_8 rfl (Nat.le_of_ble_eq_true rfl) (pvR rfl) rfl ?_
  obtain ⟨n9, hV⟩ := hV
  exact ok_X6_dropOldestState_9 hC hQ n9 a0 (hR h (hR h a0 2) (ix 0)) 1 h hV
set_option maxRecDepth 100000 in
set_option maxHeartbeats 4000000 in
theorem con_X6_dropOldestState {E : Ev} {l0 : Launch} (a0 : Nat) (h : Hp) (K : Hp → Prop) (hV : V_X6_dropOldestState a0 h K) : Con E l0 yX6_dropOldestState cX6_dropOldestState 3 none rm_X6_dropOldestState [rv a0] h (KV K) := by
  refine Con.of (by decide +kernel) (cat_R cat_nil) (Nat.le_of_ble_eq_true rfl) (fun X hC hQ => ?_)
  refine r_sub (lo1 := [some (rv a0), none, none]) (show lsub [some (rv a0), none, none] _ from ⟨Or.inr rfl, ⟨Or.inr rfl, ⟨Or.inr rfl, trivial⟩⟩⟩) ?_
  exact ok_X6_dropOldestState_0 hC hQ a0 h hV
theorem dX6_recordState_0 : decode cX6_recordState 0 = .ok (.aload_n 0, 1) := by decide +kernel
theorem dX6_recordState_1 : decode cX6_recordState 1 = .ok (.getfield 27, 3) := by decide +kernel
theorem dX6_recordState_4 : decode cX6_recordState 4 = .ok (.iconst 5, 1) := by decide +kernel
theorem dX6_recordState_5 : decode cX6_recordState 5 = .ok (.if_icmp .lt 7, 3) := by decide +kernel
theorem dX6_recordState_8 : decode cX6_recordState 8 = .ok (.aload_n 0, 1) := by decide +kernel
theorem dX6_recordState_9 : decode cX6_recordState 9 = .ok (.invokevirtual 252, 3) := by decide +kernel
theorem dX6_recordState_12 : decode cX6_recordState 12 = .ok (.aload_n 0, 1) := by decide +kernel
theorem dX6_recordState_13 : decode cX6_recordState 13 = .ok (.getfield 27, 3) := by decide +kernel
theorem dX6_recordState_16 : decode cX6_recordState 16 = .ok (.ifCond .lt 15, 3) := by decide +kernel
theorem dX6_recordState_19 : decode cX6_recordState 19 = .ok (.aload_n 0, 1) := by decide +kernel
theorem dX6_recordState_20 : decode cX6_recordState 20 = .ok (.getfield 27, 3) := by decide +kernel
theorem dX6_recordState_23 : decode cX6_recordState 23 = .ok (.aload_n 0, 1) := by decide +kernel
theorem dX6_recordState_24 : decode cX6_recordState 24 = .ok (.getfield 23, 3) := by decide +kernel
theorem dX6_recordState_27 : decode cX6_recordState 27 = .ok (.arraylength, 1) := by decide +kernel
theorem dX6_recordState_28 : decode cX6_recordState 28 = .ok (.if_icmp .lt 4, 3) := by decide +kernel
theorem dX6_recordState_31 : decode cX6_recordState 31 = .ok (.return_, 1) := by decide +kernel
theorem dX6_recordState_32 : decode cX6_recordState 32 = .ok (.aload_n 0, 1) := by decide +kernel
theorem dX6_recordState_33 : decode cX6_recordState 33 = .ok (.getfield 23, 3) := by decide +kernel
theorem dX6_recordState_36 : decode cX6_recordState 36 = .ok (.aload_n 0, 1) := by decide +kernel
theorem dX6_recordState_37 : decode cX6_recordState 37 = .ok (.getfield 27, 3) := by decide +kernel
theorem dX6_recordState_40 : decode cX6_recordState 40 = .ok (.aaload, 1) := by decide +kernel
theorem dX6_recordState_41 : decode cX6_recordState 41 = .ok (.ifnonnull 19, 3) := by decide +kernel
theorem dX6_recordState_44 : decode cX6_recordState 44 = .ok (.aload_n 0, 1) := by decide +kernel
theorem dX6_recordState_45 : decode cX6_recordState 45 = .ok (.getfield 23, 3) := by decide +kernel
theorem dX6_recordState_48 : decode cX6_recordState 48 = .ok (.aload_n 0, 1) := by decide +kernel
theorem dX6_recordState_49 : decode cX6_recordState 49 = .ok (.getfield 27, 3) := by decide +kernel
theorem dX6_recordState_52 : decode cX6_recordState 52 = .ok (.new 16, 3) := by decide +kernel
theorem dX6_recordState_55 : decode cX6_recordState 55 = .ok (.dup, 1) := by decide +kernel
theorem dX6_recordState_56 : decode cX6_recordState 56 = .ok (.invokespecial 18, 3) := by decide +kernel
theorem dX6_recordState_59 : decode cX6_recordState 59 = .ok (.aastore, 1) := by decide +kernel
theorem dX6_recordState_60 : decode cX6_recordState 60 = .ok (.aload_n 0, 1) := by decide +kernel
theorem dX6_recordState_61 : decode cX6_recordState 61 = .ok (.getfield 23, 3) := by decide +kernel
theorem dX6_recordState_64 : decode cX6_recordState 64 = .ok (.aload_n 0, 1) := by decide +kernel
theorem dX6_recordState_65 : decode cX6_recordState 65 = .ok (.getfield 27, 3) := by decide +kernel
theorem dX6_recordState_68 : decode cX6_recordState 68 = .ok (.aaload, 1) := by decide +kernel
theorem dX6_recordState_69 : decode cX6_recordState 69 = .ok (.aload_n 0, 1) := by decide +kernel
theorem dX6_recordState_70 : decode cX6_recordState 70 = .ok (.getfield 19, 3) := by decide +kernel
theorem dX6_recordState_73 : decode cX6_recordState 73 = .ok (.invokevirtual 189, 3) := by decide +kernel
theorem dX6_recordState_76 : decode cX6_recordState 76 = .ok (.aload_n 0, 1) := by decide +kernel
theorem dX6_recordState_77 : decode cX6_recordState 77 = .ok (.dup, 1) := by decide +kernel
theorem dX6_recordState_78 : decode cX6_recordState 78 = .ok (.getfield 27, 3) := by decide +kernel
theorem dX6_recordState_81 : decode cX6_recordState 81 = .ok (.iconst 1, 1) := by decide +kernel
theorem dX6_recordState_82 : decode cX6_recordState 82 = .ok (.iadd, 1) := by decide +kernel
theorem dX6_recordState_83 : decode cX6_recordState 83 = .ok (.putfield 27, 3) := by decide +kernel
theorem dX6_recordState_86 : decode cX6_recordState 86 = .ok (.return_, 1) := by decide +kernel
def rm_X6_recordState : Room := { frames := 2, cells := 4, slots := 226, locals := 48 }
set_option maxRecDepth 100000 in
set_option maxHeartbeats 4000000 in
theorem ok_X6_recordState_31 {E : Ev} {X : Xt} {l0 : Launch} {K : Hp → Prop} (hC : Cx E X l0 RX6 cX6_recordState 1 rm_X6_recordState) (hQ : CQ E X "recordState" none rm_X6_recordState (KV K)) (h : Hp) (hV : V_X6_recordState_31 K  h) : WW E X h 0 0 31 [none] [] := by
  unfold V_X6_recordState_31 at hV
  exact r_vret hC hQ dX6_recordState_31 (Nat.le_of_ble_eq_true rfl) (Nat.le_of_ble_eq_true rfl) ⟨rfl, hV⟩
set_option maxRecDepth 100000 in
set_option maxHeartbeats 4000000 in
theorem ok_X6_recordState_60 {E : Ev} {X : Xt} {l0 : Launch} {K : Hp → Prop} (hC : Cx E X l0 RX6 cX6_recordState 1 rm_X6_recordState) (hQ : CQ E X "recordState" none rm_X6_recordState (KV K)) (a0 : Nat) (h : Hp) (hV : V_X6_recordState_60 K a0 h) : WW E X h 4 226 60 [some (rv a0)] [] := by
  unfold V_X6_recordState_60 at hV
  refine r_aload_n hC dX6_recordState_60 rfl ?_
  obtain ⟨k9, hV⟩ := hV
  refine r_getR hC dX6_recordState_61 fl_6_23 rf_6_2 lq_6 k9 ?_
  refine r_aload_n hC dX6_recordState_64 rfl ?_
  obtain ⟨k9, hV⟩ := hV
  refine r_getI hC dX6_recordState_65 fl_6_27 rf_6_3 lq_6 k9 ?_
  obtain ⟨k9, k8, hV⟩ := hV
  refine r_aald (kd := 23) (d := 3) hC dX6_recordState_68 (by decide) rfl (by decide) k9 k8 ?_
  refine r_aload_n hC dX6_recordState_69 rfl ?_
  obtain ⟨k9, hV⟩ := hV
  refine r_getR hC dX6_recordState_70 fl_6_19 rf_6_1 lq_6 k9 ?_
  obtain ⟨k9, hV⟩ := hV
  refine r_callV (ci := 5) (As := [rv (hR h a0 1)]) hC dX6_recordState_73 rfl cf_X5_copyFrom ml_6_189 im_X5_copyFrom sl_X5_copyFrom lq_5 rfl rfl k9 rfl ⟨(Nat.le_of_ble_eq_true rfl), (Nat.le_of_ble_eq_true rfl), (Nat.le_of_ble_eq_true rfl), (Nat.le_of_ble_eq_true rfl)⟩ cs0 (Nat.le_of_ble_eq_true rfl) (con_X5_copyFrom (hR h (hR h a0 2) (ix (hI h a0 3))) (hR h a0 1) h _ hV) rfl (kV (k := 4) (n := 226) (fun h1 hV => ?_))
  refine r_aload_n hC dX6_recordState_76 rfl ?_
  refine r_dup hC dX6_recordState_77 (rv_cat _) ?_
  obtain ⟨k9, hV⟩ := hV
  refine r_getI hC dX6_recordState_78 fl_6_27 rf_6_3 lq_6 k9 ?_
  refine r_iconst (v := 1) hC dX6_recordState_81 (by decide) ?_
  refine r_iadd hC dX6_recordState_82 ?_
  obtain ⟨k9, hV⟩ := hV
  refine r_putI hC dX6_recordState_83 fl_6_27 ft_6 rfl rf_6_3 ty_6_3 lq_6 k9 (nmH (fun h2 k9 => ?_))
  replace hV := hV h2 k9
  exact r_vret hC hQ dX6_recordState_86 (Nat.le_of_ble_eq_true rfl) (Nat.le_of_ble_eq_true rfl) ⟨rfl, hV⟩
set_option maxRecDepth 100000 in
set_option maxHeartbeats 4000000 in
theorem ok_X6_recordState_12 {E : Ev} {X : Xt} {l0 : Launch} {K : Hp → Prop} (hC : Cx E X l0 RX6 cX6_recordState 1 rm_X6_recordState) (hQ : CQ E X "recordState" none rm_X6_recordState (KV K)) (a0 : Nat) (h : Hp) (hV : V_X6_recordState_12 K a0 h) : WW E X h 0 0 12 [some (rv a0)] [] := by
  unfold V_X6_recordState_12 at hV
  refine r_aload_n hC dX6_recordState_12 rfl ?_
  obtain ⟨k9, hV⟩ := hV
  refine r_getI hC dX6_recordState_13 fl_6_27 rf_6_3 lq_6 k9 ?_
  refine r_if_lt (tgt := 31) hC dX6_recordState_16 (by decide) (fun k9 => ?_) (fun k9 => ?_)
  · replace hV := hV.1 k9
    refine r_sub (lo1 := [none]) ⟨Or.inl rfl, trivial⟩ ?_
    exact ok_X6_recordState_31 hC hQ  h hV
  · replace hV := hV.2 k9
    refine r_aload_n hC dX6_recordState_19 rfl ?_
    obtain ⟨k9, hV⟩ := hV
    refine r_getI hC dX6_recordState_20 fl_6_27 rf_6_3 lq_6 k9 ?_
    refine r_aload_n hC dX6_recordState_23 rfl ?_
    obtain ⟨k9, hV⟩ := hV
    refine r_getR hC dX6_recordState_24 fl_6_23 rf_6_2 lq_6 k9 ?_
    obtain ⟨k9, hV⟩ := hV
    refine r_alen (kd := 23) hC dX6_recordState_27 (by decide) k9 ?_
    refine r_icmp_lt (tgt := 32) hC dX6_recordState_28 (by decide) (fun k9 => ?_) (fun k9 => ?_)
    · replace hV := hV.1 k9
      refine r_aload_n hC dX6_recordState_32 rfl ?_
      obtain ⟨k9, hV⟩ := hV
      refine r_getR hC dX6_recordState_33 fl_6_23 rf_6_2 lq_6 k9 ?_
      refine r_aload_n hC dX6_recordState_36 rfl ?_
      obtain ⟨k9, hV⟩ := hV
      refine r_getI hC dX6_recordState_37 fl_6_27 rf_6_3 lq_6 k9 ?_
      obtain ⟨k9, k8, hV⟩ := hV
      refine r_aald (kd := 23) (d := 3) hC dX6_recordState_40 (by decide) rfl (by decide) k9 k8 ?_
      refine r_ifnonnull (tgt := 60) hC dX6_recordState_41 (by decide) (fun k9 => ?_) (fun k9 => ?_)
      · replace hV := hV.1 k9
        refine r_wide (k1 := 4) (n1 := 226) (Nat.le_of_ble_eq_true rfl) (Nat.le_of_ble_eq_true rfl) ?_
        exact ok_X6_recordState_60 hC hQ a0 h hV
      · replace hV := hV.2 k9
        refine r_aload_n hC dX6_recordState_44 rfl ?_
        obtain ⟨k9, hV⟩ := hV
        refine r_getR hC dX6_recordState_45 fl_6_23 rf_6_2 lq_6 k9 ?_
        refine r_aload_n hC dX6_recordState_48 rfl ?_
        obtain ⟨k9, hV⟩ := hV
        refine r_getI hC dX6_recordState_49 fl_6_27 rf_6_3 lq_6 k9 ?_
        refine r_new (ci := 5) hC dX6_recordState_52 kl_6_16 ki_5 kz_5 rfl iw_5 ft_5 df_5 lq_5 ⟨(Nat.le_of_ble_eq_true rfl), (Nat.le_of_ble_eq_true rfl)⟩ (fun q1 k9 k8 => nmH (fun h1 k7 => ?_))
        replace hV := hV q1 k9 k8 h1 k7
        refine r_dup hC dX6_recordState_55 (rv_cat _) ?_
        obtain ⟨k9, hV⟩ := hV
        refine r_callIN (As := []) hC dX6_recordState_56 rfl cf_X5_init nl_6_18 rfl im_X5_init k9 rfl ⟨(Nat.le_of_ble_eq_true rfl), (Nat.le_of_ble_eq_true rfl), (Nat.le_of_ble_eq_true rfl), (Nat.le_of_ble_eq_true rfl)⟩ (csR (csI (csR cs0))) (Nat.le_of_ble_eq_true rfl) (con_X5_init q1 h1 _ hV) rfl (kV (k := 4) (n := 226) (fun h2 hV => ?_))
        obtain ⟨k9, k8, k7, hV⟩ := hV
        refine r_aast (kd := 23) (d := 3) (ci := 5) hC dX6_recordState_59 (by decide) rfl (by decide) lq_5 rfl rfl k9 k8 k7 (nmH (fun h3 k9 => ?_))
        replace hV := hV h3 k9
        exact ok_X6_recordState_60 hC hQ a0 h3 hV
    · replace hV := hV.2 k9
      refine r_sub (lo1 := [none]) ⟨Or.inl rfl, trivial⟩ ?_
      exact ok_X6_recordState_31 hC hQ  h hV
set_option maxRecDepth 100000 in
set_option maxHeartbeats 4000000 in
theorem ok_X6_recordState_0 {E : Ev} {X : Xt} {l0 : Launch} {K : Hp → Prop} (hC : Cx E X l0 RX6 cX6_recordState 1 rm_X6_recordState) (hQ : CQ E X "recordState" none rm_X6_recordState (KV K)) (a0 : Nat) (h : Hp) (hV : V_X6_recordState a0 h K) : WW E X h 0 0 0 [some (rv a0)] [] := by
  unfold V_X6_recordState at hV
  refine r_aload_n hC dX6_recordState_0 rfl ?_
  obtain ⟨k9, hV⟩ := hV
  refine r_getI hC dX6_recordState_1 fl_6_27 rf_6_3 lq_6 k9 ?_
  refine r_iconst (v := 5) hC dX6_recordState_4 (by decide) ?_
  refine r_icmp_lt (tgt := 12) hC dX6_recordState_5 (by decide) (fun k9 => ?_) (fun k9 => ?_)
  · replace hV := hV.1 k9
    exact ok_X6_recordState_12 hC hQ a0 h hV
  · replace hV := hV.2 k9
    refine r_aload_n hC dX6_recordState_8 rfl ?_
    obtain ⟨k9, hV⟩ := hV
    refine r_callV (ci := 6) (As := []) hC dX6_recordState_9 rfl cf_X6_dropOldestState ml_6_252 im_X6_dropOldestState sl_X6_dropOldestState lq_6 rfl rfl k9 rfl ⟨(Nat.le_of_ble_eq_true rfl), (Nat.le_of_ble_eq_true rfl), (Nat.le_of_ble_eq_true rfl), (Nat.le_of_ble_eq_true rfl)⟩ cs0 (Nat.le_of_ble_eq_true rfl) (con_X6_dropOldestState a0 h _ hV) rfl (kV (k := 0) (n := 0) (fun h1 hV => ?_))
    exact ok_X6_recordState_12 hC hQ a0 h1 hV
set_option maxRecDepth 100000 in
set_option maxHeartbeats 4000000 in
theorem con_X6_recordState {E : Ev} {l0 : Launch} (a0 : Nat) (h : Hp) (K : Hp → Prop) (hV : V_X6_recordState a0 h K) : Con E l0 yX6_recordState cX6_recordState 1 none rm_X6_recordState [rv a0] h (KV K) := by
  refine Con.of (by decide +kernel) (cat_R cat_nil) (Nat.le_of_ble_eq_true rfl) (fun X hC hQ => ?_)
  refine r_sub (lo1 := [some (rv a0)]) (show lsub [some (rv a0)] _ from ⟨Or.inr rfl, trivial⟩) ?_
  exact ok_X6_recordState_0 hC hQ a0 h hV
theorem dX6_addCase_0 : decode cX6_addCase 0 = .ok (.aload_n 0, 1) := by decide +kernel
theorem dX6_addCase_1 : decode cX6_addCase 1 = .ok (.getfield 19, 3) := by decide +kernel
theorem dX6_addCase_4 : decode cX6_addCase 4 = .ok (.getfield 61, 3) := by decide +kernel
theorem dX6_addCase_7 : decode cX6_addCase 7 = .ok (.bipush 6, 2) := by decide +kernel
theorem dX6_addCase_9 : decode cX6_addCase 9 = .ok (.if_icmp .lt 6, 3) := by decide +kernel
theorem dX6_addCase_12 : decode cX6_addCase 12 = .ok (.bipush (-3), 2) := by decide +kernel
theorem dX6_addCase_14 : decode cX6_addCase 14 = .ok (.ireturn, 1) := by decide +kernel
theorem dX6_addCase_15 : decode cX6_addCase 15 = .ok (.aload_n 0, 1) := by decide +kernel
theorem dX6_addCase_16 : decode cX6_addCase 16 = .ok (.invokevirtual 55, 3) := by decide +kernel
theorem dX6_addCase_19 : decode cX6_addCase 19 = .ok (.aload_n 0, 1) := by decide +kernel
theorem dX6_addCase_20 : decode cX6_addCase 20 = .ok (.getfield 19, 3) := by decide +kernel
theorem dX6_addCase_23 : decode cX6_addCase 23 = .ok (.dup, 1) := by decide +kernel
theorem dX6_addCase_24 : decode cX6_addCase 24 = .ok (.getfield 61, 3) := by decide +kernel
theorem dX6_addCase_27 : decode cX6_addCase 27 = .ok (.iconst 1, 1) := by decide +kernel
theorem dX6_addCase_28 : decode cX6_addCase 28 = .ok (.iadd, 1) := by decide +kernel
theorem dX6_addCase_29 : decode cX6_addCase 29 = .ok (.putfield 61, 3) := by decide +kernel
theorem dX6_addCase_32 : decode cX6_addCase 32 = .ok (.aload_n 0, 1) := by decide +kernel
theorem dX6_addCase_33 : decode cX6_addCase 33 = .ok (.getfield 19, 3) := by decide +kernel
theorem dX6_addCase_36 : decode cX6_addCase 36 = .ok (.getfield 61, 3) := by decide +kernel
theorem dX6_addCase_39 : decode cX6_addCase 39 = .ok (.iconst 1, 1) := by decide +kernel
theorem dX6_addCase_40 : decode cX6_addCase 40 = .ok (.isub, 1) := by decide +kernel
theorem dX6_addCase_41 : decode cX6_addCase 41 = .ok (.ireturn, 1) := by decide +kernel
def rm_X6_addCase : Room := { frames := 3, cells := 4, slots := 226, locals := 68 }
set_option maxRecDepth 100000 in
set_option maxHeartbeats 4000000 in
theorem ok_X6_addCase_0 {E : Ev} {X : Xt} {l0 : Launch} {K : Int32 → Hp → Prop} (hC : Cx E X l0 RX6 cX6_addCase 1 rm_X6_addCase) (hQ : CQ E X "addCase" (some .int) rm_X6_addCase (KI K)) (a0 : Nat) (h : Hp) (hV : V_X6_addCase a0 h K) : WW E X h 0 0 0 [some (rv a0)] [] := by
  unfold V_X6_addCase at hV
  refine r_aload_n hC dX6_addCase_0 rfl ?_
  obtain ⟨k9, hV⟩ := hV
  refine r_getR hC dX6_addCase_1 fl_6_19 rf_6_1 lq_6 k9 ?_
  obtain ⟨k9, hV⟩ := hV
  refine r_getI hC dX6_addCase_4 fl_6_61 rf_5_3 lq_5 k9 ?_
  refine r_bipush (v := 6) hC dX6_addCase_7 (by decide) ?_
  refine r_icmp_lt (tgt := 15) hC dX6_addCase_9 (by decide) (fun k9 => ?_) (fun k9 => ?_)
  · replace hV := hV.1 k9
    refine r_aload_n hC dX6_addCase_15 rfl ?_
    obtain ⟨k9, hV⟩ := hV
    refine r_callV (ci := 6) (As := []) hC dX6_addCase_16 rfl cf_X6_recordState ml_6_55 im_X6_recordState sl_X6_recordState lq_6 rfl rfl k9 rfl ⟨(Nat.le_of_ble_eq_true rfl), (Nat.le_of_ble_eq_true rfl), (Nat.le_of_ble_eq_true rfl), (Nat.le_of_ble_eq_true rfl)⟩ cs0 (Nat.le_of_ble_eq_true rfl) (con_X6_recordState a0 h _ hV) rfl (kV (k := 4) (n := 226) (fun h1 hV => ?_))
    refine r_aload_n hC dX6_addCase_19 rfl ?_
    obtain ⟨k9, hV⟩ := hV
    refine r_getR hC dX6_addCase_20 fl_6_19 rf_6_1 lq_6 k9 ?_
    refine r_dup hC dX6_addCase_23 (rv_cat _) ?_
    obtain ⟨k9, hV⟩ := hV
    refine r_getI hC dX6_addCase_24 fl_6_61 rf_5_3 lq_5 k9 ?_
    refine r_iconst (v := 1) hC dX6_addCase_27 (by decide) ?_
    refine r_iadd hC dX6_addCase_28 ?_
    obtain ⟨k9, hV⟩ := hV
    refine r_putI hC dX6_addCase_29 fl_6_61 ft_5 rfl rf_5_3 ty_5_3 lq_5 k9 (nmH (fun h2 k9 => ?_))
    replace hV := hV h2 k9
    refine r_aload_n hC dX6_addCase_32 rfl ?_
    obtain ⟨k9, hV⟩ := hV
    refine r_getR hC dX6_addCase_33 fl_6_19 rf_6_1 lq_6 k9 ?_
    obtain ⟨k9, hV⟩ := hV
    refine r_getI hC dX6_addCase_36 fl_6_61 rf_5_3 lq_5 k9 ?_
    refine r_iconst (v := 1) hC dX6_addCase_39 (by decide) ?_
    refine r_isub hC dX6_addCase_40 ?_
    exact r_iret hC hQ dX6_addCase_41 (Nat.le_of_ble_eq_true rfl) (Nat.le_of_ble_eq_true rfl) ⟨_, rfl, hV⟩
  · replace hV := hV.2 k9
    refine r_bipush (v := (-3)) hC dX6_addCase_12 (by decide) ?_
    exact r_iret hC hQ dX6_addCase_14 (Nat.le_of_ble_eq_true rfl) (Nat.le_of_ble_eq_true rfl) ⟨_, rfl, hV⟩
set_option maxRecDepth 100000 in
set_option maxHeartbeats 4000000 in
theorem con_X6_addCase {E : Ev} {l0 : Launch} (a0 : Nat) (h : Hp) (K : Int32 → Hp → Prop) (hV : V_X6_addCase a0 h K) : Con E l0 yX6_addCase cX6_addCase 1 (some .int) rm_X6_addCase [rv a0] h (KI K) := by
  refine Con.of (by decide +kernel) (cat_R cat_nil) (Nat.le_of_ble_eq_true rfl) (fun X hC hQ => ?_)
  refine r_sub (lo1 := [some (rv a0)]) (show lsub [some (rv a0)] _ from ⟨Or.inr rfl, trivial⟩) ?_
  exact ok_X6_addCase_0 hC hQ a0 h hV
theorem dX6_buy_0 : decode cX6_buy 0 = .ok (.iload_n 1, 1) := by decide +kernel
theorem dX6_buy_1 : decode cX6_buy 1 = .ok (.iconst 1, 1) := by decide +kernel
theorem dX6_buy_2 : decode cX6_buy 2 = .ok (.if_icmp .lt 10, 3) := by decide +kernel
theorem dX6_buy_5 : decode cX6_buy 5 = .ok (.iload_n 1, 1) := by decide +kernel
theorem dX6_buy_6 : decode cX6_buy 6 = .ok (.sipush 20000, 3) := by decide +kernel
theorem dX6_buy_9 : decode cX6_buy 9 = .ok (.if_icmp .le 6, 3) := by decide +kernel
theorem dX6_buy_12 : decode cX6_buy 12 = .ok (.bipush (-2), 2) := by decide +kernel
theorem dX6_buy_14 : decode cX6_buy 14 = .ok (.ireturn, 1) := by decide +kernel
theorem dX6_buy_15 : decode cX6_buy 15 = .ok (.aload_n 0, 1) := by decide +kernel
theorem dX6_buy_16 : decode cX6_buy 16 = .ok (.getfield 19, 3) := by decide +kernel
theorem dX6_buy_19 : decode cX6_buy 19 = .ok (.getfield 51, 3) := by decide +kernel
theorem dX6_buy_22 : decode cX6_buy 22 = .ok (.iload_n 1, 1) := by decide +kernel
theorem dX6_buy_23 : decode cX6_buy 23 = .ok (.iadd, 1) := by decide +kernel
theorem dX6_buy_24 : decode cX6_buy 24 = .ok (.ldc 54, 2) := by decide +kernel
theorem dX6_buy_26 : decode cX6_buy 26 = .ok (.if_icmp .le 6, 3) := by decide +kernel
theorem dX6_buy_29 : decode cX6_buy 29 = .ok (.bipush (-3), 2) := by decide +kernel
theorem dX6_buy_31 : decode cX6_buy 31 = .ok (.ireturn, 1) := by decide +kernel
theorem dX6_buy_32 : decode cX6_buy 32 = .ok (.aload_n 0, 1) := by decide +kernel
theorem dX6_buy_33 : decode cX6_buy 33 = .ok (.invokevirtual 55, 3) := by decide +kernel
theorem dX6_buy_36 : decode cX6_buy 36 = .ok (.aload_n 0, 1) := by decide +kernel
theorem dX6_buy_37 : decode cX6_buy 37 = .ok (.getfield 19, 3) := by decide +kernel
theorem dX6_buy_40 : decode cX6_buy 40 = .ok (.dup, 1) := by decide +kernel
theorem dX6_buy_41 : decode cX6_buy 41 = .ok (.getfield 51, 3) := by decide +kernel
theorem dX6_buy_44 : decode cX6_buy 44 = .ok (.iload_n 1, 1) := by decide +kernel
theorem dX6_buy_45 : decode cX6_buy 45 = .ok (.iadd, 1) := by decide +kernel
theorem dX6_buy_46 : decode cX6_buy 46 = .ok (.putfield 51, 3) := by decide +kernel
theorem dX6_buy_49 : decode cX6_buy 49 = .ok (.aload_n 0, 1) := by decide +kernel
theorem dX6_buy_50 : decode cX6_buy 50 = .ok (.getfield 19, 3) := by decide +kernel
theorem dX6_buy_53 : decode cX6_buy 53 = .ok (.dup, 1) := by decide +kernel
theorem dX6_buy_54 : decode cX6_buy 54 = .ok (.getfield 58, 3) := by decide +kernel
theorem dX6_buy_57 : decode cX6_buy 57 = .ok (.iload_n 1, 1) := by decide +kernel
theorem dX6_buy_58 : decode cX6_buy 58 = .ok (.iadd, 1) := by decide +kernel
theorem dX6_buy_59 : decode cX6_buy 59 = .ok (.putfield 58, 3) := by decide +kernel
theorem dX6_buy_62 : decode cX6_buy 62 = .ok (.aload_n 0, 1) := by decide +kernel
theorem dX6_buy_63 : decode cX6_buy 63 = .ok (.getfield 19, 3) := by decide +kernel
theorem dX6_buy_66 : decode cX6_buy 66 = .ok (.getfield 51, 3) := by decide +kernel
theorem dX6_buy_69 : decode cX6_buy 69 = .ok (.ireturn, 1) := by decide +kernel
def rm_X6_buy : Room := { frames := 3, cells := 4, slots := 226, locals := 68 }
set_option maxRecDepth 100000 in
set_option maxHeartbeats 4000000 in
theorem ok_X6_buy_12 {E : Ev} {X : Xt} {l0 : Launch} {K : Int32 → Hp → Prop} (hC : Cx E X l0 RX6 cX6_buy 2 rm_X6_buy) (hQ : CQ E X "buy" (some .int) rm_X6_buy (KI K)) (h : Hp) (hV : V_X6_buy_12 K  h) : WW E X h 0 0 12 [none, none] [] := by
  unfold V_X6_buy_12 at hV
  refine r_bipush (v := (-2)) hC dX6_buy_12 (by decide) ?_
  exact r_iret hC hQ dX6_buy_14 (Nat.le_of_ble_eq_true rfl) (Nat.le_of_ble_eq_true rfl) ⟨_, rfl, hV⟩
set_option maxRecDepth 100000 in
set_option maxHeartbeats 4000000 in
theorem ok_X6_buy_0 {E : Ev} {X : Xt} {l0 : Launch} {K : Int32 → Hp → Prop} (hC : Cx E X l0 RX6 cX6_buy 2 rm_X6_buy) (hQ : CQ E X "buy" (some .int) rm_X6_buy (KI K)) (a0 : Nat) (a1 : Int32) (h : Hp) (hV : V_X6_buy a0 a1 h K) : WW E X h 0 0 0 [some (rv a0), some (.int a1)] [] := by
  unfold V_X6_buy at hV
  refine r_iload_n hC dX6_buy_0 rfl ?_
  refine r_iconst (v := 1) hC dX6_buy_1 (by decide) ?_
  refine r_icmp_lt (tgt := 12) hC dX6_buy_2 (by decide) (fun k9 => ?_) (fun k9 => ?_)
  · replace hV := hV.1 k9
    refine r_sub (lo1 := [none, none]) ⟨Or.inl rfl, ⟨Or.inl rfl, trivial⟩⟩ ?_
    exact ok_X6_buy_12 hC hQ  h hV
  · replace hV := hV.2 k9
    refine r_iload_n hC dX6_buy_5 rfl ?_
    refine r_sipush (v := 20000) hC dX6_buy_6 (by decide) ?_
    refine r_icmp_le (tgt := 15) hC dX6_buy_9 (by decide) (fun k9 => ?_) (fun k9 => ?_)
    · replace hV := hV.1 k9
      refine r_aload_n hC dX6_buy_15 rfl ?_
      obtain ⟨k9, hV⟩ := hV
      refine r_getR hC dX6_buy_16 fl_6_19 rf_6_1 lq_6 k9 ?_
      obtain ⟨k9, hV⟩ := hV
      refine r_getI hC dX6_buy_19 fl_6_51 rf_5_5 lq_5 k9 ?_
      refine r_iload_n hC dX6_buy_22 rfl ?_
      refine r_iadd hC dX6_buy_23 ?_
      refine r_ldc (v := 100000) hC dX6_buy_24 kc_6_54 ?_
      refine r_icmp_le (tgt := 32) hC dX6_buy_26 (by decide) (fun k9 => ?_) (fun k9 => ?_)
      · replace hV := hV.1 k9
        refine r_aload_n hC dX6_buy_32 rfl ?_
        obtain ⟨k9, hV⟩ := hV
        refine r_callV (ci := 6) (As := []) hC dX6_buy_33 rfl cf_X6_recordState ml_6_55 im_X6_recordState sl_X6_recordState lq_6 rfl rfl k9 rfl ⟨(Nat.le_of_ble_eq_true rfl), (Nat.le_of_ble_eq_true rfl), (Nat.le_of_ble_eq_true rfl), (Nat.le_of_ble_eq_true rfl)⟩ cs0 (Nat.le_of_ble_eq_true rfl) (con_X6_recordState a0 h _ hV) rfl (kV (k := 4) (n := 226) (fun h1 hV => ?_))
        refine r_aload_n hC dX6_buy_36 rfl ?_
        obtain ⟨k9, hV⟩ := hV
        refine r_getR hC dX6_buy_37 fl_6_19 rf_6_1 lq_6 k9 ?_
        refine r_dup hC dX6_buy_40 (rv_cat _) ?_
        obtain ⟨k9, hV⟩ := hV
        refine r_getI hC dX6_buy_41 fl_6_51 rf_5_5 lq_5 k9 ?_
        refine r_iload_n hC dX6_buy_44 rfl ?_
        refine r_iadd hC dX6_buy_45 ?_
        obtain ⟨k9, hV⟩ := hV
        refine r_putI hC dX6_buy_46 fl_6_51 ft_5 rfl rf_5_5 ty_5_5 lq_5 k9 (nmH (fun h2 k9 => ?_))
        replace hV := hV h2 k9
        refine r_aload_n hC dX6_buy_49 rfl ?_
        obtain ⟨k9, hV⟩ := hV
        refine r_getR hC dX6_buy_50 fl_6_19 rf_6_1 lq_6 k9 ?_
        refine r_dup hC dX6_buy_53 (rv_cat _) ?_
        obtain ⟨k9, hV⟩ := hV
        refine r_getI hC dX6_buy_54 fl_6_58 rf_5_7 lq_5 k9 ?_
        refine r_iload_n hC dX6_buy_57 rfl ?_
        refine r_iadd hC dX6_buy_58 ?_
        obtain ⟨k9, hV⟩ := hV
        refine r_putI hC dX6_buy_59 fl_6_58 ft_5 rfl rf_5_7 ty_5_7 lq_5 k9 (nmH (fun h3 k9 => ?_))
        replace hV := hV h3 k9
        refine r_aload_n hC dX6_buy_62 rfl ?_
        obtain ⟨k9, hV⟩ := hV
        refine r_getR hC dX6_buy_63 fl_6_19 rf_6_1 lq_6 k9 ?_
        obtain ⟨k9, hV⟩ := hV
        refine r_getI hC dX6_buy_66 fl_6_51 rf_5_5 lq_5 k9 ?_
        exact r_iret hC hQ dX6_buy_69 (Nat.le_of_ble_eq_true rfl) (Nat.le_of_ble_eq_true rfl) ⟨_, rfl, hV⟩
      · replace hV := hV.2 k9
        refine r_bipush (v := (-3)) hC dX6_buy_29 (by decide) ?_
        exact r_iret hC hQ dX6_buy_31 (Nat.le_of_ble_eq_true rfl) (Nat.le_of_ble_eq_true rfl) ⟨_, rfl, hV⟩
    · replace hV := hV.2 k9
      refine r_sub (lo1 := [none, none]) ⟨Or.inl rfl, ⟨Or.inl rfl, trivial⟩⟩ ?_
      exact ok_X6_buy_12 hC hQ  h hV
set_option maxRecDepth 100000 in
set_option maxHeartbeats 4000000 in
theorem con_X6_buy {E : Ev} {l0 : Launch} (a0 : Nat) (a1 : Int32) (h : Hp) (K : Int32 → Hp → Prop) (hV : V_X6_buy a0 a1 h K) : Con E l0 yX6_buy cX6_buy 2 (some .int) rm_X6_buy [rv a0, .int a1] h (KI K) := by
  refine Con.of (by decide +kernel) (cat_R (cat_I cat_nil)) (Nat.le_of_ble_eq_true rfl) (fun X hC hQ => ?_)
  refine r_sub (lo1 := [some (rv a0), some (.int a1)]) (show lsub [some (rv a0), some (.int a1)] _ from ⟨Or.inr rfl, ⟨Or.inr rfl, trivial⟩⟩) ?_
  exact ok_X6_buy_0 hC hQ a0 a1 h hV
theorem dX6_giveBack_0 : decode cX6_giveBack 0 = .ok (.iconst 0, 1) := by decide +kernel
theorem dX6_giveBack_1 : decode cX6_giveBack 1 = .ok (.istore_n 3, 1) := by decide +kernel
theorem dX6_giveBack_2 : decode cX6_giveBack 2 = .ok (.iconst 0, 1) := by decide +kernel
theorem dX6_giveBack_3 : decode cX6_giveBack 3 = .ok (.istore 4, 2) := by decide +kernel
theorem dX6_giveBack_5 : decode cX6_giveBack 5 = .ok (.iload 4, 2) := by decide +kernel
theorem dX6_giveBack_7 : decode cX6_giveBack 7 = .ok (.bipush 6, 2) := by decide +kernel
theorem dX6_giveBack_9 : decode cX6_giveBack 9 = .ok (.if_icmp .ge 113, 3) := by decide +kernel
theorem dX6_giveBack_12 : decode cX6_giveBack 12 = .ok (.iconst 0, 1) := by decide +kernel
theorem dX6_giveBack_13 : decode cX6_giveBack 13 = .ok (.istore 5, 2) := by decide +kernel
theorem dX6_giveBack_15 : decode cX6_giveBack 15 = .ok (.iload 5, 2) := by decide +kernel
theorem dX6_giveBack_17 : decode cX6_giveBack 17 = .ok (.bipush 29, 2) := by decide +kernel
theorem dX6_giveBack_19 : decode cX6_giveBack 19 = .ok (.if_icmp .ge 97, 3) := by decide +kernel
theorem dX6_giveBack_22 : decode cX6_giveBack 22 = .ok (.aload_n 1, 1) := by decide +kernel
theorem dX6_giveBack_23 : decode cX6_giveBack 23 = .ok (.iload 4, 2) := by decide +kernel
theorem dX6_giveBack_25 : decode cX6_giveBack 25 = .ok (.iload 5, 2) := by decide +kernel
theorem dX6_giveBack_27 : decode cX6_giveBack 27 = .ok (.invokevirtual 215, 3) := by decide +kernel
theorem dX6_giveBack_30 : decode cX6_giveBack 30 = .ok (.istore 6, 2) := by decide +kernel
theorem dX6_giveBack_32 : decode cX6_giveBack 32 = .ok (.iload_n 2, 1) := by decide +kernel
theorem dX6_giveBack_33 : decode cX6_giveBack 33 = .ok (.ifCond .eq 11, 3) := by decide +kernel
theorem dX6_giveBack_36 : decode cX6_giveBack 36 = .ok (.iload 6, 2) := by decide +kernel
theorem dX6_giveBack_38 : decode cX6_giveBack 38 = .ok (.bipush 8, 2) := by decide +kernel
theorem dX6_giveBack_40 : decode cX6_giveBack 40 = .ok (.idiv, 1) := by decide +kernel
theorem dX6_giveBack_41 : decode cX6_giveBack 41 = .ok (.goto 4, 3) := by decide +kernel
theorem dX6_giveBack_44 : decode cX6_giveBack 44 = .ok (.iconst 0, 1) := by decide +kernel
theorem dX6_giveBack_45 : decode cX6_giveBack 45 = .ok (.istore 7, 2) := by decide +kernel
theorem dX6_giveBack_47 : decode cX6_giveBack 47 = .ok (.iload 6, 2) := by decide +kernel
theorem dX6_giveBack_49 : decode cX6_giveBack 49 = .ok (.iload 7, 2) := by decide +kernel
theorem dX6_giveBack_51 : decode cX6_giveBack 51 = .ok (.isub, 1) := by decide +kernel
theorem dX6_giveBack_52 : decode cX6_giveBack 52 = .ok (.bipush 99, 2) := by decide +kernel
theorem dX6_giveBack_54 : decode cX6_giveBack 54 = .ok (.aload_n 0, 1) := by decide +kernel
theorem dX6_giveBack_55 : decode cX6_giveBack 55 = .ok (.getfield 19, 3) := by decide +kernel
theorem dX6_giveBack_58 : decode cX6_giveBack 58 = .ok (.iload 4, 2) := by decide +kernel
theorem dX6_giveBack_60 : decode cX6_giveBack 60 = .ok (.iload 5, 2) := by decide +kernel
theorem dX6_giveBack_62 : decode cX6_giveBack 62 = .ok (.invokevirtual 75, 3) := by decide +kernel
theorem dX6_giveBack_65 : decode cX6_giveBack 65 = .ok (.isub, 1) := by decide +kernel
theorem dX6_giveBack_66 : decode cX6_giveBack 66 = .ok (.invokestatic 290, 3) := by decide +kernel
theorem dX6_giveBack_69 : decode cX6_giveBack 69 = .ok (.istore 8, 2) := by decide +kernel
theorem dX6_giveBack_71 : decode cX6_giveBack 71 = .ok (.aload_n 0, 1) := by decide +kernel
theorem dX6_giveBack_72 : decode cX6_giveBack 72 = .ok (.getfield 19, 3) := by decide +kernel
theorem dX6_giveBack_75 : decode cX6_giveBack 75 = .ok (.iload 4, 2) := by decide +kernel
theorem dX6_giveBack_77 : decode cX6_giveBack 77 = .ok (.iload 5, 2) := by decide +kernel
theorem dX6_giveBack_79 : decode cX6_giveBack 79 = .ok (.iload 8, 2) := by decide +kernel
theorem dX6_giveBack_81 : decode cX6_giveBack 81 = .ok (.invokevirtual 79, 3) := by decide +kernel
theorem dX6_giveBack_84 : decode cX6_giveBack 84 = .ok (.aload_n 0, 1) := by decide +kernel
theorem dX6_giveBack_85 : decode cX6_giveBack 85 = .ok (.getfield 19, 3) := by decide +kernel
theorem dX6_giveBack_88 : decode cX6_giveBack 88 = .ok (.getfield 193, 3) := by decide +kernel
theorem dX6_giveBack_91 : decode cX6_giveBack 91 = .ok (.iload 5, 2) := by decide +kernel
theorem dX6_giveBack_93 : decode cX6_giveBack 93 = .ok (.dup2, 1) := by decide +kernel
theorem dX6_giveBack_94 : decode cX6_giveBack 94 = .ok (.iaload, 1) := by decide +kernel
theorem dX6_giveBack_95 : decode cX6_giveBack 95 = .ok (.iload 6, 2) := by decide +kernel
theorem dX6_giveBack_97 : decode cX6_giveBack 97 = .ok (.iload 8, 2) := by decide +kernel
theorem dX6_giveBack_99 : decode cX6_giveBack 99 = .ok (.isub, 1) := by decide +kernel
theorem dX6_giveBack_100 : decode cX6_giveBack 100 = .ok (.iadd, 1) := by decide +kernel
theorem dX6_giveBack_101 : decode cX6_giveBack 101 = .ok (.iastore, 1) := by decide +kernel
theorem dX6_giveBack_102 : decode cX6_giveBack 102 = .ok (.iload_n 3, 1) := by decide +kernel
theorem dX6_giveBack_103 : decode cX6_giveBack 103 = .ok (.iload 6, 2) := by decide +kernel
theorem dX6_giveBack_105 : decode cX6_giveBack 105 = .ok (.iload 8, 2) := by decide +kernel
theorem dX6_giveBack_107 : decode cX6_giveBack 107 = .ok (.isub, 1) := by decide +kernel
theorem dX6_giveBack_108 : decode cX6_giveBack 108 = .ok (.iadd, 1) := by decide +kernel
theorem dX6_giveBack_109 : decode cX6_giveBack 109 = .ok (.istore_n 3, 1) := by decide +kernel
theorem dX6_giveBack_110 : decode cX6_giveBack 110 = .ok (.iinc 5 1, 3) := by decide +kernel
theorem dX6_giveBack_113 : decode cX6_giveBack 113 = .ok (.goto (-98), 3) := by decide +kernel
theorem dX6_giveBack_116 : decode cX6_giveBack 116 = .ok (.iinc 4 1, 3) := by decide +kernel
theorem dX6_giveBack_119 : decode cX6_giveBack 119 = .ok (.goto (-114), 3) := by decide +kernel
theorem dX6_giveBack_122 : decode cX6_giveBack 122 = .ok (.iload_n 3, 1) := by decide +kernel
theorem dX6_giveBack_123 : decode cX6_giveBack 123 = .ok (.ireturn, 1) := by decide +kernel
def rm_X6_giveBack : Room := { frames := 2, cells := 0, slots := 0, locals := 45 }
set_option maxRecDepth 100000 in
set_option maxHeartbeats 4000000 in
theorem ok_X6_giveBack_45 {E : Ev} {X : Xt} {l0 : Launch} {K : Int32 → Hp → Prop} {C5 : Nat → Nat → Int32 → Int32 → Int32 → Hp → Prop} {C15 : Nat → Nat → Int32 → Int32 → Int32 → Int32 → Hp → Prop} (hC : Cx E X l0 RX6 cX6_giveBack 9 rm_X6_giveBack) (hQ : CQ E X "giveBack" (some .int) rm_X6_giveBack (KI K)) (hC5 : ∀ (a0 : Nat) (a1 : Nat) (a2 : Int32) (a3 : Int32) (a4 : Int32) (h : Hp), C5 a0 a1 a2 a3 a4 h → WW E X h 0 0 5 [some (rv a0), some (rv a1), some (.int a2), some (.int a3), some (.int a4), none, none, none, none] []) (hC15 : ∀ (a0 : Nat) (a1 : Nat) (a2 : Int32) (a3 : Int32) (a4 : Int32) (a5 : Int32) (h : Hp), C15 a0 a1 a2 a3 a4 a5 h → WW E X h 0 0 15 [some (rv a0), some (rv a1), some (.int a2), some (.int a3), some (.int a4), some (.int a5), none, none, none] []) (a0 : Nat) (a1 : Nat) (a2 : Int32) (a3 : Int32) (a4 : Int32) (a5 : Int32) (a6 : Int32) (s0 : Int32) (h : Hp) (hV : V_X6_giveBack_45 K C5 C15 a0 a1 a2 a3 a4 a5 a6 s0 h) : WW E X h 0 0 45 [some (rv a0), some (rv a1), some (.int a2), some (.int a3), some (.int a4), some (.int a5), some (.int a6), none, none] [.int s0] := by
  unfold V_X6_giveBack_45 at hV
  refine r_istore (lo1 := [some (rv a0), some (rv a1), some (.int a2), some (.int a3), some (.int a4), some (.int a5), some (.int a6), some (.int s0), none]) hC dX6_giveBack_45 (Nat.le_of_ble_eq_true rfl) (pvI rfl) rfl ?_
  refine r_iload hC dX6_giveBack_47 rfl ?_
  refine r_iload hC dX6_giveBack_49 rfl ?_
  refine r_isub hC dX6_giveBack_51 ?_
  refine r_bipush (v := 99) hC dX6_giveBack_52 (by decide) ?_
  refine r_aload_n hC dX6_giveBack_54 rfl ?_
  obtain ⟨k9, hV⟩ := hV
  refine r_getR hC dX6_giveBack_55 fl_6_19 rf_6_1 lq_6 k9 ?_
  refine r_iload hC dX6_giveBack_58 rfl ?_
  refine r_iload hC dX6_giveBack_60 rfl ?_
  obtain ⟨k9, hV⟩ := hV
  refine r_callV (ci := 5) (As := [.int a4, .int a5]) hC dX6_giveBack_62 rfl cf_X5_held ml_6_75 im_X5_held sl_X5_held lq_5 rfl rfl k9 rfl ⟨(Nat.le_of_ble_eq_true rfl), (Nat.le_of_ble_eq_true rfl), (Nat.le_of_ble_eq_true rfl), (Nat.le_of_ble_eq_true rfl)⟩ (csI (csI cs0)) (Nat.le_of_ble_eq_true rfl) (con_X5_held (hR h a0 1) a4 a5 h _ hV) rfl (kI (k := 0) (n := 0) (fun r1 h1 hV => ?_))
  refine r_isub hC dX6_giveBack_65 ?_
  refine r_min hC dX6_giveBack_66 rfl ml_6_290 mmin_s mth_i mmin_c cs0 ⟨Nat.le_of_ble_eq_true rfl, Nat.le_of_ble_eq_true rfl, Nat.le_of_ble_eq_true rfl, Nat.le_of_ble_eq_true rfl⟩ ?_
  refine r_istore (lo1 := [some (rv a0), some (rv a1), some (.int a2), some (.int a3), some (.int a4), some (.int a5), some (.int a6), some (.int s0), some (.int (if 99 - r1 < a6 - s0 then 99 - r1 else a6 - s0))]) hC dX6_giveBack_69 (Nat.le_of_ble_eq_true rfl) (pvI rfl) rfl ?_
  refine r_aload_n hC dX6_giveBack_71 rfl ?_
  obtain ⟨k9, hV⟩ := hV
  refine r_getR hC dX6_giveBack_72 fl_6_19 rf_6_1 lq_6 k9 ?_
  refine r_iload hC dX6_giveBack_75 rfl ?_
  refine r_iload hC dX6_giveBack_77 rfl ?_
  refine r_iload hC dX6_giveBack_79 rfl ?_
  obtain ⟨k9, hV⟩ := hV
  refine r_callV (ci := 5) (As := [.int a4, .int a5, .int (if 99 - r1 < a6 - s0 then 99 - r1 else a6 - s0)]) hC dX6_giveBack_81 rfl cf_X5_put ml_6_79 im_X5_put sl_X5_put lq_5 rfl rfl k9 rfl ⟨(Nat.le_of_ble_eq_true rfl), (Nat.le_of_ble_eq_true rfl), (Nat.le_of_ble_eq_true rfl), (Nat.le_of_ble_eq_true rfl)⟩ cs0 (Nat.le_of_ble_eq_true rfl) (con_X5_put (hR h1 a0 1) a4 a5 (if 99 - r1 < a6 - s0 then 99 - r1 else a6 - s0) h1 _ hV) rfl (kV (k := 0) (n := 0) (fun h2 hV => ?_))
  refine r_aload_n hC dX6_giveBack_84 rfl ?_
  obtain ⟨k9, hV⟩ := hV
  refine r_getR hC dX6_giveBack_85 fl_6_19 rf_6_1 lq_6 k9 ?_
  obtain ⟨k9, hV⟩ := hV
  refine r_getR hC dX6_giveBack_88 fl_6_193 rf_5_1 lq_5 k9 ?_
  refine r_iload hC dX6_giveBack_91 rfl ?_
  refine r_dup2 hC dX6_giveBack_93 rfl (rv_cat _) ?_
  obtain ⟨k9, k8, hV⟩ := hV
  refine r_iald (kd := 36) hC dX6_giveBack_94 (by decide) rfl k9 k8 ?_
  refine r_iload hC dX6_giveBack_95 rfl ?_
  refine r_iload hC dX6_giveBack_97 rfl ?_
  refine r_isub hC dX6_giveBack_99 ?_
  refine r_iadd hC dX6_giveBack_100 ?_
  obtain ⟨k9, k8, hV⟩ := hV
  refine r_iast (kd := 36) hC dX6_giveBack_101 (by decide) rfl k9 k8 (nmH (fun h3 k9 => ?_))
  replace hV := hV h3 k9
  refine r_iload_n hC dX6_giveBack_102 rfl ?_
  refine r_iload hC dX6_giveBack_103 rfl ?_
  refine r_iload hC dX6_giveBack_105 rfl ?_
  refine r_isub hC dX6_giveBack_107 ?_
  refine r_iadd hC dX6_giveBack_108 ?_
  refine r_istore_n (ii := 3) (lo1 := [some (rv a0), some (rv a1), some (.int a2), some (.int (a3 + (a6 - (if 99 - r1 < a6 - s0 then 99 - r1 else a6 - s0)))), some (.int a4), some (.int a5), some (.int a6), some (.int s0), some (.int (if 99 - r1 < a6 - s0 then 99 - r1 else a6 - s0))]) hC dX6_giveBack_109 rfl (Nat.le_of_ble_eq_true rfl) (pvI rfl) rfl ?_
  refine r_iinc (v := 1) (lo1 := [some (rv a0), some (rv a1), some (.int a2), some (.int (a3 + (a6 - (if 99 - r1 < a6 - s0 then 99 - r1 else a6 - s0)))), some (.int a4), some (.int (a5 + 1)), some (.int a6), some (.int s0), some (.int (if 99 - r1 < a6 - s0 then 99 - r1 else a6 - s0))]) hC dX6_giveBack_110 rfl (by decide) (pvI rfl) rfl ?_
  refine r_goto (tgt := 15) hC dX6_giveBack_113 (by decide) ?_
  refine r_sub (lo1 := [some (rv a0), some (rv a1), some (.int a2), some (.int (a3 + (a6 - (if 99 - r1 < a6 - s0 then 99 - r1 else a6 - s0)))), some (.int a4), some (.int (a5 + 1)), none, none, none]) ⟨Or.inr rfl, ⟨Or.inr rfl, ⟨Or.inr rfl, ⟨Or.inr rfl, ⟨Or.inr rfl, ⟨Or.inr rfl, ⟨Or.inl rfl, ⟨Or.inl rfl, ⟨Or.inl rfl, trivial⟩⟩⟩⟩⟩⟩⟩⟩⟩ ?_
  exact hC15 a0 a1 a2 (a3 + (a6 - (if 99 - r1 < a6 - s0 then 99 - r1 else a6 - s0))) a4 (a5 + 1) h3 hV
set_option maxRecDepth 100000 in
set_option maxHeartbeats 4000000 in
theorem ok_X6_giveBack_15 {E : Ev} {X : Xt} {l0 : Launch} {K : Int32 → Hp → Prop} {C5 : Nat → Nat → Int32 → Int32 → Int32 → Hp → Prop} (hC : Cx E X l0 RX6 cX6_giveBack 9 rm_X6_giveBack) (hQ : CQ E X "giveBack" (some .int) rm_X6_giveBack (KI K)) (hC5 : ∀ (a0 : Nat) (a1 : Nat) (a2 : Int32) (a3 : Int32) (a4 : Int32) (h : Hp), C5 a0 a1 a2 a3 a4 h → WW E X h 0 0 5 [some (rv a0), some (rv a1), some (.int a2), some (.int a3), some (.int a4), none, none, none, none] []) : ∀ (n : Nat) (a0 : Nat) (a1 : Nat) (a2 : Int32) (a3 : Int32) (a4 : Int32) (a5 : Int32) (h : Hp), V_X6_giveBack_15 K C5 n a0 a1 a2 a3 a4 a5 h → WW E X h 0 0 15 [some (rv a0), some (rv a1), some (.int a2), some (.int a3), some (.int a4), some (.int a5), none, none, none] [] := by
  intro n
  induction n with
  | zero => intro a0 a1 a2 a3 a4 a5 h hV; exact hV.elim
  | succ n ih =>
    intro a0 a1 a2 a3 a4 a5 h hV
    unfold V_X6_giveBack_15 at hV
    refine r_iload hC dX6_giveBack_15 rfl ?_
    refine r_bipush (v := 29) hC dX6_giveBack_17 (by decide) ?_
    refine r_icmp_ge (tgt := 116) hC dX6_giveBack_19 (by decide) (fun k9 => ?_) (fun k9 => ?_)
    · replace hV := hV.1 k9
      refine r_iinc (v := 1) (lo1 := [some (rv a0), some (rv a1), some (.int a2), some (.int a3), some (.int (a4 + 1)), some (.int a5), none, none, none]) hC dX6_giveBack_116 rfl (by decide) (pvI rfl) rfl ?_
      refine r_goto (tgt := 5) hC dX6_giveBack_119 (by decide) ?_
      refine r_sub (lo1 := [some (rv a0), some (rv a1), some (.int a2), some (.int a3), some (.int (a4 + 1)), none, none, none, none]) ⟨Or.inr rfl, ⟨Or.inr rfl, ⟨Or.inr rfl, ⟨Or.inr rfl, ⟨Or.inr rfl, ⟨Or.inl rfl, ⟨Or.inl rfl, ⟨Or.inl rfl, ⟨Or.inl rfl, trivial⟩⟩⟩⟩⟩⟩⟩⟩⟩ ?_
      exact hC5 a0 a1 a2 a3 (a4 + 1) h hV
    · replace hV := hV.2 k9
      refine r_aload_n hC dX6_giveBack_22 rfl ?_
      refine r_iload hC dX6_giveBack_23 rfl ?_
      refine r_iload hC dX6_giveBack_25 rfl ?_
      obtain ⟨k9, hV⟩ := hV
      refine r_callV (ci := 1) (As := [.int a4, .int a5]) hC dX6_giveBack_27 rfl cf_X1_takenFrom ml_6_215 im_X1_takenFrom sl_X1_takenFrom lq_1 rfl rfl k9 rfl ⟨(Nat.le_of_ble_eq_true rfl), (Nat.le_of_ble_eq_true rfl), (Nat.le_of_ble_eq_true rfl), (Nat.le_of_ble_eq_true rfl)⟩ cs0 (Nat.le_of_ble_eq_true rfl) (con_X1_takenFrom a1 a4 a5 h _ hV) rfl (kI (k := 0) (n := 0) (fun r1 h1 hV => ?_))
      refine r_istore (lo1 := [some (rv a0), some (rv a1), some (.int a2), some (.int a3), some (.int a4), some (.int a5), some (.int r1), none, none]) hC dX6_giveBack_30 (Nat.le_of_ble_eq_true rfl) (pvI rfl) rfl ?_
      refine r_iload_n hC dX6_giveBack_32 rfl ?_
      refine r_if_eq (tgt := 44) hC dX6_giveBack_33 (by decide) (fun k9 => ?_) (fun k9 => ?_)
      · replace hV := hV.1 k9
        refine r_iconst (v := 0) hC dX6_giveBack_44 (by decide) ?_
        exact ok_X6_giveBack_45 hC hQ hC5 ih a0 a1 a2 a3 a4 a5 r1 0 h1 hV
      · replace hV := hV.2 k9
        refine r_iload hC dX6_giveBack_36 rfl ?_
        refine r_bipush (v := 8) hC dX6_giveBack_38 (by decide) ?_
        refine r_idiv hC dX6_giveBack_40 (by decide) ?_
        refine r_goto (tgt := 45) hC dX6_giveBack_41 (by decide) ?_
        exact ok_X6_giveBack_45 hC hQ hC5 ih a0 a1 a2 a3 a4 a5 r1 (r1 / 8) h1 hV
set_option maxRecDepth 100000 in
set_option maxHeartbeats 4000000 in
theorem ok_X6_giveBack_5 {E : Ev} {X : Xt} {l0 : Launch} {K : Int32 → Hp → Prop} (hC : Cx E X l0 RX6 cX6_giveBack 9 rm_X6_giveBack) (hQ : CQ E X "giveBack" (some .int) rm_X6_giveBack (KI K)) : ∀ (n : Nat) (a0 : Nat) (a1 : Nat) (a2 : Int32) (a3 : Int32) (a4 : Int32) (h : Hp), V_X6_giveBack_5 K n a0 a1 a2 a3 a4 h → WW E X h 0 0 5 [some (rv a0), some (rv a1), some (.int a2), some (.int a3), some (.int a4), none, none, none, none] [] := by
  intro n
  induction n with
  | zero => intro a0 a1 a2 a3 a4 h hV; exact hV.elim
  | succ n ih =>
    intro a0 a1 a2 a3 a4 h hV
    unfold V_X6_giveBack_5 at hV
    refine r_iload hC dX6_giveBack_5 rfl ?_
    refine r_bipush (v := 6) hC dX6_giveBack_7 (by decide) ?_
    refine r_icmp_ge (tgt := 122) hC dX6_giveBack_9 (by decide) (fun k9 => ?_) (fun k9 => ?_)
    · replace hV := hV.1 k9
      refine r_iload_n hC dX6_giveBack_122 rfl ?_
      exact r_iret hC hQ dX6_giveBack_123 (Nat.le_of_ble_eq_true rfl) (Nat.le_of_ble_eq_true rfl) ⟨_, rfl, hV⟩
    · replace hV := hV.2 k9
      refine r_iconst (v := 0) hC dX6_giveBack_12 (by decide) ?_
      refine r_istore (lo1 := [some (rv a0), some (rv a1), some (.int a2), some (.int a3), some (.int a4), some (.int 0), none, none, none]) hC dX6_giveBack_13 (Nat.le_of_ble_eq_true rfl) (pvI rfl) rfl ?_
      obtain ⟨n9, hV⟩ := hV
      exact ok_X6_giveBack_15 hC hQ ih n9 a0 a1 a2 a3 a4 0 h hV
set_option maxRecDepth 100000 in
set_option maxHeartbeats 4000000 in
theorem ok_X6_giveBack_0 {E : Ev} {X : Xt} {l0 : Launch} {K : Int32 → Hp → Prop} (hC : Cx E X l0 RX6 cX6_giveBack 9 rm_X6_giveBack) (hQ : CQ E X "giveBack" (some .int) rm_X6_giveBack (KI K)) (a0 : Nat) (a1 : Nat) (a2 : Int32) (h : Hp) (hV : V_X6_giveBack a0 a1 a2 h K) : WW E X h 0 0 0 [some (rv a0), some (rv a1), some (.int a2), none, none, none, none, none, none] [] := by
  unfold V_X6_giveBack at hV
  refine r_iconst (v := 0) hC dX6_giveBack_0 (by decide) ?_
  refine r_istore_n (ii := 3) (lo1 := [some (rv a0), some (rv a1), some (.int a2), some (.int 0), none, none, none, none, none]) hC dX6_giveBack_1 rfl (Nat.le_of_ble_eq_true rfl) (pvI rfl) rfl ?_
  refine r_iconst (v := 0) hC dX6_giveBack_2 (by decide) ?_
  refine r_istore (lo1 := [some (rv a0), some (rv a1), some (.int a2), some (.int 0), some (.int 0), none, none, none, none]) hC dX6_giveBack_3 (Nat.le_of_ble_eq_true rfl) (pvI rfl) rfl ?_
  obtain ⟨n9, hV⟩ := hV
  exact ok_X6_giveBack_5 hC hQ n9 a0 a1 a2 0 0 h hV
set_option maxRecDepth 100000 in
set_option maxHeartbeats 4000000 in
theorem con_X6_giveBack {E : Ev} {l0 : Launch} (a0 : Nat) (a1 : Nat) (a2 : Int32) (h : Hp) (K : Int32 → Hp → Prop) (hV : V_X6_giveBack a0 a1 a2 h K) : Con E l0 yX6_giveBack cX6_giveBack 9 (some .int) rm_X6_giveBack [rv a0, rv a1, .int a2] h (KI K) := by
  refine Con.of (by decide +kernel) (cat_R (cat_R (cat_I cat_nil))) (Nat.le_of_ble_eq_true rfl) (fun X hC hQ => ?_)
  refine r_sub (lo1 := [some (rv a0), some (rv a1), some (.int a2), none, none, none, none, none, none]) (show lsub [some (rv a0), some (rv a1), some (.int a2), none, none, none, none, none, none] _ from ⟨Or.inr rfl, ⟨Or.inr rfl, ⟨Or.inr rfl, ⟨Or.inr rfl, ⟨Or.inr rfl, ⟨Or.inr rfl, ⟨Or.inr rfl, ⟨Or.inr rfl, ⟨Or.inr rfl, trivial⟩⟩⟩⟩⟩⟩⟩⟩⟩) ?_
  exact ok_X6_giveBack_0 hC hQ a0 a1 a2 h hV
theorem dX6_cancel_0 : decode cX6_cancel 0 = .ok (.aload_n 0, 1) := by decide +kernel
theorem dX6_cancel_1 : decode cX6_cancel 1 = .ok (.getfield 19, 3) := by decide +kernel
theorem dX6_cancel_4 : decode cX6_cancel 4 = .ok (.iload_n 1, 1) := by decide +kernel
theorem dX6_cancel_5 : decode cX6_cancel 5 = .ok (.invokevirtual 138, 3) := by decide +kernel
theorem dX6_cancel_8 : decode cX6_cancel 8 = .ok (.astore_n 2, 1) := by decide +kernel
theorem dX6_cancel_9 : decode cX6_cancel 9 = .ok (.aload_n 2, 1) := by decide +kernel
theorem dX6_cancel_10 : decode cX6_cancel 10 = .ok (.ifnonnull 5, 3) := by decide +kernel
theorem dX6_cancel_13 : decode cX6_cancel 13 = .ok (.iconst (-1), 1) := by decide +kernel
theorem dX6_cancel_14 : decode cX6_cancel 14 = .ok (.ireturn, 1) := by decide +kernel
theorem dX6_cancel_15 : decode cX6_cancel 15 = .ok (.aload_n 2, 1) := by decide +kernel
theorem dX6_cancel_16 : decode cX6_cancel 16 = .ok (.invokevirtual 182, 3) := by decide +kernel
theorem dX6_cancel_19 : decode cX6_cancel 19 = .ok (.ifCond .ne 6, 3) := by decide +kernel
theorem dX6_cancel_22 : decode cX6_cancel 22 = .ok (.bipush (-4), 2) := by decide +kernel
theorem dX6_cancel_24 : decode cX6_cancel 24 = .ok (.ireturn, 1) := by decide +kernel
theorem dX6_cancel_25 : decode cX6_cancel 25 = .ok (.aload_n 0, 1) := by decide +kernel
theorem dX6_cancel_26 : decode cX6_cancel 26 = .ok (.invokevirtual 55, 3) := by decide +kernel
theorem dX6_cancel_29 : decode cX6_cancel 29 = .ok (.aload_n 0, 1) := by decide +kernel
theorem dX6_cancel_30 : decode cX6_cancel 30 = .ok (.aload_n 2, 1) := by decide +kernel
theorem dX6_cancel_31 : decode cX6_cancel 31 = .ok (.iconst 0, 1) := by decide +kernel
theorem dX6_cancel_32 : decode cX6_cancel 32 = .ok (.invokevirtual 175, 3) := by decide +kernel
theorem dX6_cancel_35 : decode cX6_cancel 35 = .ok (.istore_n 3, 1) := by decide +kernel
theorem dX6_cancel_36 : decode cX6_cancel 36 = .ok (.aload_n 0, 1) := by decide +kernel
theorem dX6_cancel_37 : decode cX6_cancel 37 = .ok (.getfield 19, 3) := by decide +kernel
theorem dX6_cancel_40 : decode cX6_cancel 40 = .ok (.iload_n 1, 1) := by decide +kernel
theorem dX6_cancel_41 : decode cX6_cancel 41 = .ok (.new 124, 3) := by decide +kernel
theorem dX6_cancel_44 : decode cX6_cancel 44 = .ok (.dup, 1) := by decide +kernel
theorem dX6_cancel_45 : decode cX6_cancel 45 = .ok (.aload_n 2, 1) := by decide +kernel
theorem dX6_cancel_46 : decode cX6_cancel 46 = .ok (.getfield 152, 3) := by decide +kernel
theorem dX6_cancel_49 : decode cX6_cancel 49 = .ok (.iconst 4, 1) := by decide +kernel
theorem dX6_cancel_50 : decode cX6_cancel 50 = .ok (.bipush (-5), 2) := by decide +kernel
theorem dX6_cancel_52 : decode cX6_cancel 52 = .ok (.iconst 0, 1) := by decide +kernel
theorem dX6_cancel_53 : decode cX6_cancel 53 = .ok (.newarray .int, 2) := by decide +kernel
theorem dX6_cancel_55 : decode cX6_cancel 55 = .ok (.invokespecial 131, 3) := by decide +kernel
theorem dX6_cancel_58 : decode cX6_cancel 58 = .ok (.invokevirtual 134, 3) := by decide +kernel
theorem dX6_cancel_61 : decode cX6_cancel 61 = .ok (.aload_n 2, 1) := by decide +kernel
theorem dX6_cancel_62 : decode cX6_cancel 62 = .ok (.invokevirtual 186, 3) := by decide +kernel
theorem dX6_cancel_65 : decode cX6_cancel 65 = .ok (.iload_n 3, 1) := by decide +kernel
theorem dX6_cancel_66 : decode cX6_cancel 66 = .ok (.isub, 1) := by decide +kernel
theorem dX6_cancel_67 : decode cX6_cancel 67 = .ok (.ireturn, 1) := by decide +kernel
def rm_X6_cancel : Room := { frames := 3, cells := 6, slots := 230, locals := 73 }
set_option maxRecDepth 100000 in
set_option maxHeartbeats 4000000 in
theorem ok_X6_cancel_0 {E : Ev} {X : Xt} {l0 : Launch} {K : Int32 → Hp → Prop} (hC : Cx E X l0 RX6 cX6_cancel 4 rm_X6_cancel) (hQ : CQ E X "cancel" (some .int) rm_X6_cancel (KI K)) (a0 : Nat) (a1 : Int32) (h : Hp) (hV : V_X6_cancel a0 a1 h K) : WW E X h 0 0 0 [some (rv a0), some (.int a1), none, none] [] := by
  unfold V_X6_cancel at hV
  refine r_aload_n hC dX6_cancel_0 rfl ?_
  obtain ⟨k9, hV⟩ := hV
  refine r_getR hC dX6_cancel_1 fl_6_19 rf_6_1 lq_6 k9 ?_
  refine r_iload_n hC dX6_cancel_4 rfl ?_
  obtain ⟨k9, hV⟩ := hV
  refine r_callV (ci := 5) (As := [.int a1]) hC dX6_cancel_5 rfl cf_X5_findJob ml_6_138 im_X5_findJob sl_X5_findJob lq_5 rfl rfl k9 rfl ⟨(Nat.le_of_ble_eq_true rfl), (Nat.le_of_ble_eq_true rfl), (Nat.le_of_ble_eq_true rfl), (Nat.le_of_ble_eq_true rfl)⟩ cs0 (Nat.le_of_ble_eq_true rfl) (con_X5_findJob (hR h a0 1) a1 h _ hV) rfl (kR (k := 0) (n := 0) (fun r1 h1 hV => ?_))
  refine r_astore_n (ii := 2) (lo1 := [some (rv a0), some (.int a1), some (rv r1), none]) hC dX6_cancel_8 rfl (Nat.le_of_ble_eq_true rfl) (pvI rfl) rfl ?_
  refine r_aload_n hC dX6_cancel_9 rfl ?_
  refine r_ifnonnull (tgt := 15) hC dX6_cancel_10 (by decide) (fun k9 => ?_) (fun k9 => ?_)
  · replace hV := hV.1 k9
    refine r_aload_n hC dX6_cancel_15 rfl ?_
    obtain ⟨k9, hV⟩ := hV
    refine r_callV (ci := 1) (As := []) hC dX6_cancel_16 rfl cf_X1_isOpen ml_6_182 im_X1_isOpen sl_X1_isOpen lq_1 rfl rfl k9 rfl ⟨(Nat.le_of_ble_eq_true rfl), (Nat.le_of_ble_eq_true rfl), (Nat.le_of_ble_eq_true rfl), (Nat.le_of_ble_eq_true rfl)⟩ cs0 (Nat.le_of_ble_eq_true rfl) (con_X1_isOpen r1 h1 _ hV) rfl (kI (k := 0) (n := 0) (fun r2 h2 hV => ?_))
    refine r_if_ne (tgt := 25) hC dX6_cancel_19 (by decide) (fun k9 => ?_) (fun k9 => ?_)
    · replace hV := hV.1 k9
      refine r_aload_n hC dX6_cancel_25 rfl ?_
      obtain ⟨k9, hV⟩ := hV
      refine r_callV (ci := 6) (As := []) hC dX6_cancel_26 rfl cf_X6_recordState ml_6_55 im_X6_recordState sl_X6_recordState lq_6 rfl rfl k9 rfl ⟨(Nat.le_of_ble_eq_true rfl), (Nat.le_of_ble_eq_true rfl), (Nat.le_of_ble_eq_true rfl), (Nat.le_of_ble_eq_true rfl)⟩ cs0 (Nat.le_of_ble_eq_true rfl) (con_X6_recordState a0 h2 _ hV) rfl (kV (k := 4) (n := 226) (fun h3 hV => ?_))
      refine r_aload_n hC dX6_cancel_29 rfl ?_
      refine r_aload_n hC dX6_cancel_30 rfl ?_
      refine r_iconst (v := 0) hC dX6_cancel_31 (by decide) ?_
      obtain ⟨k9, hV⟩ := hV
      refine r_callV (ci := 6) (As := [rv r1, .int 0]) hC dX6_cancel_32 rfl cf_X6_giveBack ml_6_175 im_X6_giveBack sl_X6_giveBack lq_6 rfl rfl k9 rfl ⟨(Nat.le_of_ble_eq_true rfl), (Nat.le_of_ble_eq_true rfl), (Nat.le_of_ble_eq_true rfl), (Nat.le_of_ble_eq_true rfl)⟩ cs0 (Nat.le_of_ble_eq_true rfl) (con_X6_giveBack a0 r1 0 h3 _ hV) rfl (kI (k := 4) (n := 226) (fun r3 h4 hV => ?_))
      refine r_istore_n (ii := 3) (lo1 := [some (rv a0), some (.int a1), some (rv r1), some (.int r3)]) hC dX6_cancel_35 rfl (Nat.le_of_ble_eq_true rfl) (pvR rfl) rfl ?_
      refine r_aload_n hC dX6_cancel_36 rfl ?_
      obtain ⟨k9, hV⟩ := hV
      refine r_getR hC dX6_cancel_37 fl_6_19 rf_6_1 lq_6 k9 ?_
      refine r_iload_n hC dX6_cancel_40 rfl ?_
      refine r_new (ci := 1) hC dX6_cancel_41 kl_6_124 ki_1 kz_1 rfl iw_1 ft_1 df_1 lq_1 ⟨(Nat.le_of_ble_eq_true rfl), (Nat.le_of_ble_eq_true rfl)⟩ (fun q1 k9 k8 => nmH (fun h5 k7 => ?_))
      replace hV := hV q1 k9 k8 h5 k7
      refine r_dup hC dX6_cancel_44 (rv_cat _) ?_
      refine r_aload_n hC dX6_cancel_45 rfl ?_
      obtain ⟨k9, hV⟩ := hV
      refine r_getR hC dX6_cancel_46 fl_6_152 rf_1_0 lq_1 k9 ?_
      refine r_iconst (v := 4) hC dX6_cancel_49 (by decide) ?_
      refine r_bipush (v := (-5)) hC dX6_cancel_50 (by decide) ?_
      refine r_iconst (v := 0) hC dX6_cancel_52 (by decide) ?_
      refine r_newarr (kd := 20) (d := 0) (N := 0) hC dX6_cancel_53 (by decide) rfl (by decide) rfl ka_0 (by decide) (by decide) (by decide) ⟨(Nat.le_of_ble_eq_true rfl), (Nat.le_of_ble_eq_true rfl)⟩ (fun q2 k9 k8 => nmH (fun h6 k7 => ?_))
      replace hV := hV q2 k9 k8 h6 k7
      obtain ⟨k9, hV⟩ := hV
      refine r_callI (As := [rv (hR h5 r1 0), .int 4, .int (-5), rv q2]) hC dX6_cancel_55 rfl cf_X1_init ml_6_131 rfl im_X1_init k9 rfl ⟨(Nat.le_of_ble_eq_true rfl), (Nat.le_of_ble_eq_true rfl), (Nat.le_of_ble_eq_true rfl), (Nat.le_of_ble_eq_true rfl)⟩ (csR (csI (csR cs0))) (Nat.le_of_ble_eq_true rfl) (con_X1_init q1 (hR h5 r1 0) 4 (-5) q2 h6 _ hV) rfl (kV (k := 6) (n := 230) (fun h7 hV => ?_))
      obtain ⟨k9, hV⟩ := hV
      refine r_callV (ci := 5) (As := [.int a1, rv q1]) hC dX6_cancel_58 rfl cf_X5_putJob ml_6_134 im_X5_putJob sl_X5_putJob lq_5 rfl rfl k9 rfl ⟨(Nat.le_of_ble_eq_true rfl), (Nat.le_of_ble_eq_true rfl), (Nat.le_of_ble_eq_true rfl), (Nat.le_of_ble_eq_true rfl)⟩ cs0 (Nat.le_of_ble_eq_true rfl) (con_X5_putJob (hR h4 a0 1) a1 q1 h7 _ hV) rfl (kV (k := 6) (n := 230) (fun h8 hV => ?_))
      refine r_aload_n hC dX6_cancel_61 rfl ?_
      obtain ⟨k9, hV⟩ := hV
      refine r_callV (ci := 1) (As := []) hC dX6_cancel_62 rfl cf_X1_formePieces ml_6_186 im_X1_formePieces sl_X1_formePieces lq_1 rfl rfl k9 rfl ⟨(Nat.le_of_ble_eq_true rfl), (Nat.le_of_ble_eq_true rfl), (Nat.le_of_ble_eq_true rfl), (Nat.le_of_ble_eq_true rfl)⟩ cs0 (Nat.le_of_ble_eq_true rfl) (con_X1_formePieces r1 h8 _ hV) rfl (kI (k := 6) (n := 230) (fun r4 h9 hV => ?_))
      refine r_iload_n hC dX6_cancel_65 rfl ?_
      refine r_isub hC dX6_cancel_66 ?_
      exact r_iret hC hQ dX6_cancel_67 (Nat.le_of_ble_eq_true rfl) (Nat.le_of_ble_eq_true rfl) ⟨_, rfl, hV⟩
    · replace hV := hV.2 k9
      refine r_bipush (v := (-4)) hC dX6_cancel_22 (by decide) ?_
      exact r_iret hC hQ dX6_cancel_24 (Nat.le_of_ble_eq_true rfl) (Nat.le_of_ble_eq_true rfl) ⟨_, rfl, hV⟩
  · replace hV := hV.2 k9
    refine r_iconst (v := (-1)) hC dX6_cancel_13 (by decide) ?_
    exact r_iret hC hQ dX6_cancel_14 (Nat.le_of_ble_eq_true rfl) (Nat.le_of_ble_eq_true rfl) ⟨_, rfl, hV⟩
set_option maxRecDepth 100000 in
set_option maxHeartbeats 4000000 in
theorem con_X6_cancel {E : Ev} {l0 : Launch} (a0 : Nat) (a1 : Int32) (h : Hp) (K : Int32 → Hp → Prop) (hV : V_X6_cancel a0 a1 h K) : Con E l0 yX6_cancel cX6_cancel 4 (some .int) rm_X6_cancel [rv a0, .int a1] h (KI K) := by
  refine Con.of (by decide +kernel) (cat_R (cat_I cat_nil)) (Nat.le_of_ble_eq_true rfl) (fun X hC hQ => ?_)
  refine r_sub (lo1 := [some (rv a0), some (.int a1), none, none]) (show lsub [some (rv a0), some (.int a1), none, none] _ from ⟨Or.inr rfl, ⟨Or.inr rfl, ⟨Or.inr rfl, ⟨Or.inr rfl, trivial⟩⟩⟩⟩) ?_
  exact ok_X6_cancel_0 hC hQ a0 a1 h hV
theorem dX6_isCase_0 : decode cX6_isCase 0 = .ok (.iload_n 1, 1) := by decide +kernel
theorem dX6_isCase_1 : decode cX6_isCase 1 = .ok (.ifCond .lt 24, 3) := by decide +kernel
theorem dX6_isCase_4 : decode cX6_isCase 4 = .ok (.iload_n 1, 1) := by decide +kernel
theorem dX6_isCase_5 : decode cX6_isCase 5 = .ok (.aload_n 0, 1) := by decide +kernel
theorem dX6_isCase_6 : decode cX6_isCase 6 = .ok (.getfield 19, 3) := by decide +kernel
theorem dX6_isCase_9 : decode cX6_isCase 9 = .ok (.getfield 61, 3) := by decide +kernel
theorem dX6_isCase_12 : decode cX6_isCase 12 = .ok (.if_icmp .ge 13, 3) := by decide +kernel
theorem dX6_isCase_15 : decode cX6_isCase 15 = .ok (.iload_n 1, 1) := by decide +kernel
theorem dX6_isCase_16 : decode cX6_isCase 16 = .ok (.bipush 6, 2) := by decide +kernel
theorem dX6_isCase_18 : decode cX6_isCase 18 = .ok (.if_icmp .ge 7, 3) := by decide +kernel
theorem dX6_isCase_21 : decode cX6_isCase 21 = .ok (.iconst 1, 1) := by decide +kernel
theorem dX6_isCase_22 : decode cX6_isCase 22 = .ok (.goto 4, 3) := by decide +kernel
theorem dX6_isCase_25 : decode cX6_isCase 25 = .ok (.iconst 0, 1) := by decide +kernel
theorem dX6_isCase_26 : decode cX6_isCase 26 = .ok (.ireturn, 1) := by decide +kernel
def rm_X6_isCase : Room := { frames := 0, cells := 0, slots := 0, locals := 0 }
set_option maxRecDepth 100000 in
set_option maxHeartbeats 4000000 in
theorem ok_X6_isCase_26 {E : Ev} {X : Xt} {l0 : Launch} {K : Int32 → Hp → Prop} (hC : Cx E X l0 RX6 cX6_isCase 2 rm_X6_isCase) (hQ : CQ E X "isCase" (some .boolean) rm_X6_isCase (KI K)) (s0 : Int32) (h : Hp) (hV : V_X6_isCase_26 K s0 h) : WW E X h 0 0 26 [none, none] [.int s0] := by
  unfold V_X6_isCase_26 at hV
  exact r_zret hC hQ dX6_isCase_26 (Nat.le_of_ble_eq_true rfl) (Nat.le_of_ble_eq_true rfl) hV.1 ⟨_, rfl, hV.2⟩
set_option maxRecDepth 100000 in
set_option maxHeartbeats 4000000 in
theorem ok_X6_isCase_25 {E : Ev} {X : Xt} {l0 : Launch} {K : Int32 → Hp → Prop} (hC : Cx E X l0 RX6 cX6_isCase 2 rm_X6_isCase) (hQ : CQ E X "isCase" (some .boolean) rm_X6_isCase (KI K)) (h : Hp) (hV : V_X6_isCase_25 K  h) : WW E X h 0 0 25 [none, none] [] := by
  unfold V_X6_isCase_25 at hV
  refine r_iconst (v := 0) hC dX6_isCase_25 (by decide) ?_
  exact ok_X6_isCase_26 hC hQ 0 h hV
set_option maxRecDepth 100000 in
set_option maxHeartbeats 4000000 in
theorem ok_X6_isCase_0 {E : Ev} {X : Xt} {l0 : Launch} {K : Int32 → Hp → Prop} (hC : Cx E X l0 RX6 cX6_isCase 2 rm_X6_isCase) (hQ : CQ E X "isCase" (some .boolean) rm_X6_isCase (KI K)) (a0 : Nat) (a1 : Int32) (h : Hp) (hV : V_X6_isCase a0 a1 h K) : WW E X h 0 0 0 [some (rv a0), some (.int a1)] [] := by
  unfold V_X6_isCase at hV
  refine r_iload_n hC dX6_isCase_0 rfl ?_
  refine r_if_lt (tgt := 25) hC dX6_isCase_1 (by decide) (fun k9 => ?_) (fun k9 => ?_)
  · replace hV := hV.1 k9
    refine r_sub (lo1 := [none, none]) ⟨Or.inl rfl, ⟨Or.inl rfl, trivial⟩⟩ ?_
    exact ok_X6_isCase_25 hC hQ  h hV
  · replace hV := hV.2 k9
    refine r_iload_n hC dX6_isCase_4 rfl ?_
    refine r_aload_n hC dX6_isCase_5 rfl ?_
    obtain ⟨k9, hV⟩ := hV
    refine r_getR hC dX6_isCase_6 fl_6_19 rf_6_1 lq_6 k9 ?_
    obtain ⟨k9, hV⟩ := hV
    refine r_getI hC dX6_isCase_9 fl_6_61 rf_5_3 lq_5 k9 ?_
    refine r_icmp_ge (tgt := 25) hC dX6_isCase_12 (by decide) (fun k9 => ?_) (fun k9 => ?_)
    · replace hV := hV.1 k9
      refine r_sub (lo1 := [none, none]) ⟨Or.inl rfl, ⟨Or.inl rfl, trivial⟩⟩ ?_
      exact ok_X6_isCase_25 hC hQ  h hV
    · replace hV := hV.2 k9
      refine r_iload_n hC dX6_isCase_15 rfl ?_
      refine r_bipush (v := 6) hC dX6_isCase_16 (by decide) ?_
      refine r_icmp_ge (tgt := 25) hC dX6_isCase_18 (by decide) (fun k9 => ?_) (fun k9 => ?_)
      · replace hV := hV.1 k9
        refine r_sub (lo1 := [none, none]) ⟨Or.inl rfl, ⟨Or.inl rfl, trivial⟩⟩ ?_
        exact ok_X6_isCase_25 hC hQ  h hV
      · replace hV := hV.2 k9
        refine r_iconst (v := 1) hC dX6_isCase_21 (by decide) ?_
        refine r_goto (tgt := 26) hC dX6_isCase_22 (by decide) ?_
        refine r_sub (lo1 := [none, none]) ⟨Or.inl rfl, ⟨Or.inl rfl, trivial⟩⟩ ?_
        exact ok_X6_isCase_26 hC hQ 1 h hV
set_option maxRecDepth 100000 in
set_option maxHeartbeats 4000000 in
theorem con_X6_isCase {E : Ev} {l0 : Launch} (a0 : Nat) (a1 : Int32) (h : Hp) (K : Int32 → Hp → Prop) (hV : V_X6_isCase a0 a1 h K) : Con E l0 yX6_isCase cX6_isCase 2 (some .boolean) rm_X6_isCase [rv a0, .int a1] h (KI K) := by
  refine Con.of (by decide +kernel) (cat_R (cat_I cat_nil)) (Nat.le_of_ble_eq_true rfl) (fun X hC hQ => ?_)
  refine r_sub (lo1 := [some (rv a0), some (.int a1)]) (show lsub [some (rv a0), some (.int a1)] _ from ⟨Or.inr rfl, ⟨Or.inr rfl, trivial⟩⟩) ?_
  exact ok_X6_isCase_0 hC hQ a0 a1 h hV
theorem dX6_isSort_0 : decode cX6_isSort 0 = .ok (.iload_n 0, 1) := by decide +kernel
theorem dX6_isSort_1 : decode cX6_isSort 1 = .ok (.ifCond .lt 13, 3) := by decide +kernel
theorem dX6_isSort_4 : decode cX6_isSort 4 = .ok (.iload_n 0, 1) := by decide +kernel
theorem dX6_isSort_5 : decode cX6_isSort 5 = .ok (.bipush 29, 2) := by decide +kernel
theorem dX6_isSort_7 : decode cX6_isSort 7 = .ok (.if_icmp .ge 7, 3) := by decide +kernel
theorem dX6_isSort_10 : decode cX6_isSort 10 = .ok (.iconst 1, 1) := by decide +kernel
theorem dX6_isSort_11 : decode cX6_isSort 11 = .ok (.goto 4, 3) := by decide +kernel
theorem dX6_isSort_14 : decode cX6_isSort 14 = .ok (.iconst 0, 1) := by decide +kernel
theorem dX6_isSort_15 : decode cX6_isSort 15 = .ok (.ireturn, 1) := by decide +kernel
def rm_X6_isSort : Room := { frames := 0, cells := 0, slots := 0, locals := 0 }
set_option maxRecDepth 100000 in
set_option maxHeartbeats 4000000 in
theorem ok_X6_isSort_15 {E : Ev} {X : Xt} {l0 : Launch} {K : Int32 → Hp → Prop} (hC : Cx E X l0 RX6 cX6_isSort 1 rm_X6_isSort) (hQ : CQ E X "isSort" (some .boolean) rm_X6_isSort (KI K)) (s0 : Int32) (h : Hp) (hV : V_X6_isSort_15 K s0 h) : WW E X h 0 0 15 [none] [.int s0] := by
  unfold V_X6_isSort_15 at hV
  exact r_zret hC hQ dX6_isSort_15 (Nat.le_of_ble_eq_true rfl) (Nat.le_of_ble_eq_true rfl) hV.1 ⟨_, rfl, hV.2⟩
set_option maxRecDepth 100000 in
set_option maxHeartbeats 4000000 in
theorem ok_X6_isSort_14 {E : Ev} {X : Xt} {l0 : Launch} {K : Int32 → Hp → Prop} (hC : Cx E X l0 RX6 cX6_isSort 1 rm_X6_isSort) (hQ : CQ E X "isSort" (some .boolean) rm_X6_isSort (KI K)) (h : Hp) (hV : V_X6_isSort_14 K  h) : WW E X h 0 0 14 [none] [] := by
  unfold V_X6_isSort_14 at hV
  refine r_iconst (v := 0) hC dX6_isSort_14 (by decide) ?_
  exact ok_X6_isSort_15 hC hQ 0 h hV
set_option maxRecDepth 100000 in
set_option maxHeartbeats 4000000 in
theorem ok_X6_isSort_0 {E : Ev} {X : Xt} {l0 : Launch} {K : Int32 → Hp → Prop} (hC : Cx E X l0 RX6 cX6_isSort 1 rm_X6_isSort) (hQ : CQ E X "isSort" (some .boolean) rm_X6_isSort (KI K)) (a0 : Int32) (h : Hp) (hV : V_X6_isSort a0 h K) : WW E X h 0 0 0 [some (.int a0)] [] := by
  unfold V_X6_isSort at hV
  refine r_iload_n hC dX6_isSort_0 rfl ?_
  refine r_if_lt (tgt := 14) hC dX6_isSort_1 (by decide) (fun k9 => ?_) (fun k9 => ?_)
  · replace hV := hV.1 k9
    refine r_sub (lo1 := [none]) ⟨Or.inl rfl, trivial⟩ ?_
    exact ok_X6_isSort_14 hC hQ  h hV
  · replace hV := hV.2 k9
    refine r_iload_n hC dX6_isSort_4 rfl ?_
    refine r_bipush (v := 29) hC dX6_isSort_5 (by decide) ?_
    refine r_icmp_ge (tgt := 14) hC dX6_isSort_7 (by decide) (fun k9 => ?_) (fun k9 => ?_)
    · replace hV := hV.1 k9
      refine r_sub (lo1 := [none]) ⟨Or.inl rfl, trivial⟩ ?_
      exact ok_X6_isSort_14 hC hQ  h hV
    · replace hV := hV.2 k9
      refine r_iconst (v := 1) hC dX6_isSort_10 (by decide) ?_
      refine r_goto (tgt := 15) hC dX6_isSort_11 (by decide) ?_
      refine r_sub (lo1 := [none]) ⟨Or.inl rfl, trivial⟩ ?_
      exact ok_X6_isSort_15 hC hQ 1 h hV
set_option maxRecDepth 100000 in
set_option maxHeartbeats 4000000 in
theorem con_X6_isSort {E : Ev} {l0 : Launch} (a0 : Int32) (h : Hp) (K : Int32 → Hp → Prop) (hV : V_X6_isSort a0 h K) : Con E l0 yX6_isSort cX6_isSort 1 (some .boolean) rm_X6_isSort [.int a0] h (KI K) := by
  refine Con.of (by decide +kernel) (cat_I cat_nil) (Nat.le_of_ble_eq_true rfl) (fun X hC hQ => ?_)
  refine r_sub (lo1 := [some (.int a0)]) (show lsub [some (.int a0)] _ from ⟨Or.inr rfl, trivial⟩) ?_
  exact ok_X6_isSort_0 hC hQ a0 h hV
theorem dX6_castWanted_0 : decode cX6_castWanted 0 = .ok (.iconst 0, 1) := by decide +kernel
theorem dX6_castWanted_1 : decode cX6_castWanted 1 = .ok (.istore_n 2, 1) := by decide +kernel
theorem dX6_castWanted_2 : decode cX6_castWanted 2 = .ok (.iconst 0, 1) := by decide +kernel
theorem dX6_castWanted_3 : decode cX6_castWanted 3 = .ok (.istore_n 3, 1) := by decide +kernel
theorem dX6_castWanted_4 : decode cX6_castWanted 4 = .ok (.iconst 0, 1) := by decide +kernel
theorem dX6_castWanted_5 : decode cX6_castWanted 5 = .ok (.istore 4, 2) := by decide +kernel
theorem dX6_castWanted_7 : decode cX6_castWanted 7 = .ok (.iload 4, 2) := by decide +kernel
theorem dX6_castWanted_9 : decode cX6_castWanted 9 = .ok (.bipush 29, 2) := by decide +kernel
theorem dX6_castWanted_11 : decode cX6_castWanted 11 = .ok (.if_icmp .ge 61, 3) := by decide +kernel
theorem dX6_castWanted_14 : decode cX6_castWanted 14 = .ok (.aload_n 0, 1) := by decide +kernel
theorem dX6_castWanted_15 : decode cX6_castWanted 15 = .ok (.getfield 19, 3) := by decide +kernel
theorem dX6_castWanted_18 : decode cX6_castWanted 18 = .ok (.iload_n 1, 1) := by decide +kernel
theorem dX6_castWanted_19 : decode cX6_castWanted 19 = .ok (.iload 4, 2) := by decide +kernel
theorem dX6_castWanted_21 : decode cX6_castWanted 21 = .ok (.invokevirtual 75, 3) := by decide +kernel
theorem dX6_castWanted_24 : decode cX6_castWanted 24 = .ok (.aload_n 0, 1) := by decide +kernel
theorem dX6_castWanted_25 : decode cX6_castWanted 25 = .ok (.getfield 48, 3) := by decide +kernel
theorem dX6_castWanted_28 : decode cX6_castWanted 28 = .ok (.iload 4, 2) := by decide +kernel
theorem dX6_castWanted_30 : decode cX6_castWanted 30 = .ok (.iaload, 1) := by decide +kernel
theorem dX6_castWanted_31 : decode cX6_castWanted 31 = .ok (.iadd, 1) := by decide +kernel
theorem dX6_castWanted_32 : decode cX6_castWanted 32 = .ok (.bipush 99, 2) := by decide +kernel
theorem dX6_castWanted_34 : decode cX6_castWanted 34 = .ok (.if_icmp .le 6, 3) := by decide +kernel
theorem dX6_castWanted_37 : decode cX6_castWanted 37 = .ok (.bipush (-3), 2) := by decide +kernel
theorem dX6_castWanted_39 : decode cX6_castWanted 39 = .ok (.ireturn, 1) := by decide +kernel
theorem dX6_castWanted_40 : decode cX6_castWanted 40 = .ok (.iload_n 2, 1) := by decide +kernel
theorem dX6_castWanted_41 : decode cX6_castWanted 41 = .ok (.aload_n 0, 1) := by decide +kernel
theorem dX6_castWanted_42 : decode cX6_castWanted 42 = .ok (.getfield 48, 3) := by decide +kernel
theorem dX6_castWanted_45 : decode cX6_castWanted 45 = .ok (.iload 4, 2) := by decide +kernel
theorem dX6_castWanted_47 : decode cX6_castWanted 47 = .ok (.iaload, 1) := by decide +kernel
theorem dX6_castWanted_48 : decode cX6_castWanted 48 = .ok (.iload 4, 2) := by decide +kernel
theorem dX6_castWanted_50 : decode cX6_castWanted 50 = .ok (.invokestatic 83, 3) := by decide +kernel
theorem dX6_castWanted_53 : decode cX6_castWanted 53 = .ok (.imul, 1) := by decide +kernel
theorem dX6_castWanted_54 : decode cX6_castWanted 54 = .ok (.iadd, 1) := by decide +kernel
theorem dX6_castWanted_55 : decode cX6_castWanted 55 = .ok (.istore_n 2, 1) := by decide +kernel
theorem dX6_castWanted_56 : decode cX6_castWanted 56 = .ok (.iload_n 3, 1) := by decide +kernel
theorem dX6_castWanted_57 : decode cX6_castWanted 57 = .ok (.aload_n 0, 1) := by decide +kernel
theorem dX6_castWanted_58 : decode cX6_castWanted 58 = .ok (.getfield 48, 3) := by decide +kernel
theorem dX6_castWanted_61 : decode cX6_castWanted 61 = .ok (.iload 4, 2) := by decide +kernel
theorem dX6_castWanted_63 : decode cX6_castWanted 63 = .ok (.iaload, 1) := by decide +kernel
theorem dX6_castWanted_64 : decode cX6_castWanted 64 = .ok (.iadd, 1) := by decide +kernel
theorem dX6_castWanted_65 : decode cX6_castWanted 65 = .ok (.istore_n 3, 1) := by decide +kernel
theorem dX6_castWanted_66 : decode cX6_castWanted 66 = .ok (.iinc 4 1, 3) := by decide +kernel
theorem dX6_castWanted_69 : decode cX6_castWanted 69 = .ok (.goto (-62), 3) := by decide +kernel
theorem dX6_castWanted_72 : decode cX6_castWanted 72 = .ok (.iload_n 2, 1) := by decide +kernel
theorem dX6_castWanted_73 : decode cX6_castWanted 73 = .ok (.aload_n 0, 1) := by decide +kernel
theorem dX6_castWanted_74 : decode cX6_castWanted 74 = .ok (.getfield 19, 3) := by decide +kernel
theorem dX6_castWanted_77 : decode cX6_castWanted 77 = .ok (.getfield 51, 3) := by decide +kernel
theorem dX6_castWanted_80 : decode cX6_castWanted 80 = .ok (.if_icmp .le 6, 3) := by decide +kernel
theorem dX6_castWanted_83 : decode cX6_castWanted 83 = .ok (.bipush (-4), 2) := by decide +kernel
theorem dX6_castWanted_85 : decode cX6_castWanted 85 = .ok (.ireturn, 1) := by decide +kernel
theorem dX6_castWanted_86 : decode cX6_castWanted 86 = .ok (.aload_n 0, 1) := by decide +kernel
theorem dX6_castWanted_87 : decode cX6_castWanted 87 = .ok (.invokevirtual 55, 3) := by decide +kernel
theorem dX6_castWanted_90 : decode cX6_castWanted 90 = .ok (.iconst 0, 1) := by decide +kernel
theorem dX6_castWanted_91 : decode cX6_castWanted 91 = .ok (.istore 4, 2) := by decide +kernel
theorem dX6_castWanted_93 : decode cX6_castWanted 93 = .ok (.iload 4, 2) := by decide +kernel
theorem dX6_castWanted_95 : decode cX6_castWanted 95 = .ok (.bipush 29, 2) := by decide +kernel
theorem dX6_castWanted_97 : decode cX6_castWanted 97 = .ok (.if_icmp .ge 26, 3) := by decide +kernel
theorem dX6_castWanted_100 : decode cX6_castWanted 100 = .ok (.aload_n 0, 1) := by decide +kernel
theorem dX6_castWanted_101 : decode cX6_castWanted 101 = .ok (.getfield 19, 3) := by decide +kernel
theorem dX6_castWanted_104 : decode cX6_castWanted 104 = .ok (.iload_n 1, 1) := by decide +kernel
theorem dX6_castWanted_105 : decode cX6_castWanted 105 = .ok (.iload 4, 2) := by decide +kernel
theorem dX6_castWanted_107 : decode cX6_castWanted 107 = .ok (.aload_n 0, 1) := by decide +kernel
theorem dX6_castWanted_108 : decode cX6_castWanted 108 = .ok (.getfield 48, 3) := by decide +kernel
theorem dX6_castWanted_111 : decode cX6_castWanted 111 = .ok (.iload 4, 2) := by decide +kernel
theorem dX6_castWanted_113 : decode cX6_castWanted 113 = .ok (.iaload, 1) := by decide +kernel
theorem dX6_castWanted_114 : decode cX6_castWanted 114 = .ok (.invokevirtual 79, 3) := by decide +kernel
theorem dX6_castWanted_117 : decode cX6_castWanted 117 = .ok (.iinc 4 1, 3) := by decide +kernel
theorem dX6_castWanted_120 : decode cX6_castWanted 120 = .ok (.goto (-27), 3) := by decide +kernel
theorem dX6_castWanted_123 : decode cX6_castWanted 123 = .ok (.aload_n 0, 1) := by decide +kernel
theorem dX6_castWanted_124 : decode cX6_castWanted 124 = .ok (.getfield 19, 3) := by decide +kernel
theorem dX6_castWanted_127 : decode cX6_castWanted 127 = .ok (.dup, 1) := by decide +kernel
theorem dX6_castWanted_128 : decode cX6_castWanted 128 = .ok (.getfield 51, 3) := by decide +kernel
theorem dX6_castWanted_131 : decode cX6_castWanted 131 = .ok (.iload_n 2, 1) := by decide +kernel
theorem dX6_castWanted_132 : decode cX6_castWanted 132 = .ok (.isub, 1) := by decide +kernel
theorem dX6_castWanted_133 : decode cX6_castWanted 133 = .ok (.putfield 51, 3) := by decide +kernel
theorem dX6_castWanted_136 : decode cX6_castWanted 136 = .ok (.aload_n 0, 1) := by decide +kernel
theorem dX6_castWanted_137 : decode cX6_castWanted 137 = .ok (.getfield 19, 3) := by decide +kernel
theorem dX6_castWanted_140 : decode cX6_castWanted 140 = .ok (.dup, 1) := by decide +kernel
theorem dX6_castWanted_141 : decode cX6_castWanted 141 = .ok (.getfield 243, 3) := by decide +kernel
theorem dX6_castWanted_144 : decode cX6_castWanted 144 = .ok (.iload_n 3, 1) := by decide +kernel
theorem dX6_castWanted_145 : decode cX6_castWanted 145 = .ok (.iadd, 1) := by decide +kernel
theorem dX6_castWanted_146 : decode cX6_castWanted 146 = .ok (.putfield 243, 3) := by decide +kernel
theorem dX6_castWanted_149 : decode cX6_castWanted 149 = .ok (.iload_n 3, 1) := by decide +kernel
theorem dX6_castWanted_150 : decode cX6_castWanted 150 = .ok (.ireturn, 1) := by decide +kernel
def rm_X6_castWanted : Room := { frames := 3, cells := 4, slots := 226, locals := 68 }
set_option maxRecDepth 100000 in
set_option maxHeartbeats 4000000 in
theorem ok_X6_castWanted_93 {E : Ev} {X : Xt} {l0 : Launch} {K : Int32 → Hp → Prop} (hC : Cx E X l0 RX6 cX6_castWanted 5 rm_X6_castWanted) (hQ : CQ E X "castWanted" (some .int) rm_X6_castWanted (KI K)) : ∀ (n : Nat) (a0 : Nat) (a1 : Int32) (a2 : Int32) (a3 : Int32) (a4 : Int32) (h : Hp), V_X6_castWanted_93 K n a0 a1 a2 a3 a4 h → WW E X h 4 226 93 [some (rv a0), some (.int a1), some (.int a2), some (.int a3), some (.int a4)] [] := by
  intro n
  induction n with
  | zero => intro a0 a1 a2 a3 a4 h hV; exact hV.elim
  | succ n ih =>
    intro a0 a1 a2 a3 a4 h hV
    unfold V_X6_castWanted_93 at hV
    refine r_iload hC dX6_castWanted_93 rfl ?_
    refine r_bipush (v := 29) hC dX6_castWanted_95 (by decide) ?_
    refine r_icmp_ge (tgt := 123) hC dX6_castWanted_97 (by decide) (fun k9 => ?_) (fun k9 => ?_)
    · replace hV := hV.1 k9
      refine r_aload_n hC dX6_castWanted_123 rfl ?_
      obtain ⟨k9, hV⟩ := hV
      refine r_getR hC dX6_castWanted_124 fl_6_19 rf_6_1 lq_6 k9 ?_
      refine r_dup hC dX6_castWanted_127 (rv_cat _) ?_
      obtain ⟨k9, hV⟩ := hV
      refine r_getI hC dX6_castWanted_128 fl_6_51 rf_5_5 lq_5 k9 ?_
      refine r_iload_n hC dX6_castWanted_131 rfl ?_
      refine r_isub hC dX6_castWanted_132 ?_
      obtain ⟨k9, hV⟩ := hV
      refine r_putI hC dX6_castWanted_133 fl_6_51 ft_5 rfl rf_5_5 ty_5_5 lq_5 k9 (nmH (fun h1 k9 => ?_))
      replace hV := hV h1 k9
      refine r_aload_n hC dX6_castWanted_136 rfl ?_
      obtain ⟨k9, hV⟩ := hV
      refine r_getR hC dX6_castWanted_137 fl_6_19 rf_6_1 lq_6 k9 ?_
      refine r_dup hC dX6_castWanted_140 (rv_cat _) ?_
      obtain ⟨k9, hV⟩ := hV
      refine r_getI hC dX6_castWanted_141 fl_6_243 rf_5_9 lq_5 k9 ?_
      refine r_iload_n hC dX6_castWanted_144 rfl ?_
      refine r_iadd hC dX6_castWanted_145 ?_
      obtain ⟨k9, hV⟩ := hV
      refine r_putI hC dX6_castWanted_146 fl_6_243 ft_5 rfl rf_5_9 ty_5_9 lq_5 k9 (nmH (fun h2 k9 => ?_))
      replace hV := hV h2 k9
      refine r_iload_n hC dX6_castWanted_149 rfl ?_
      exact r_iret hC hQ dX6_castWanted_150 (Nat.le_of_ble_eq_true rfl) (Nat.le_of_ble_eq_true rfl) ⟨_, rfl, hV⟩
    · replace hV := hV.2 k9
      refine r_aload_n hC dX6_castWanted_100 rfl ?_
      obtain ⟨k9, hV⟩ := hV
      refine r_getR hC dX6_castWanted_101 fl_6_19 rf_6_1 lq_6 k9 ?_
      refine r_iload_n hC dX6_castWanted_104 rfl ?_
      refine r_iload hC dX6_castWanted_105 rfl ?_
      refine r_aload_n hC dX6_castWanted_107 rfl ?_
      obtain ⟨k9, hV⟩ := hV
      refine r_getR hC dX6_castWanted_108 fl_6_48 rf_6_8 lq_6 k9 ?_
      refine r_iload hC dX6_castWanted_111 rfl ?_
      obtain ⟨k9, k8, hV⟩ := hV
      refine r_iald (kd := 39) hC dX6_castWanted_113 (by decide) rfl k9 k8 ?_
      obtain ⟨k9, hV⟩ := hV
      refine r_callV (ci := 5) (As := [.int a1, .int a4, .int (hI h (hR h a0 8) (ix a4))]) hC dX6_castWanted_114 rfl cf_X5_put ml_6_79 im_X5_put sl_X5_put lq_5 rfl rfl k9 rfl ⟨(Nat.le_of_ble_eq_true rfl), (Nat.le_of_ble_eq_true rfl), (Nat.le_of_ble_eq_true rfl), (Nat.le_of_ble_eq_true rfl)⟩ cs0 (Nat.le_of_ble_eq_true rfl) (con_X5_put (hR h a0 1) a1 a4 (hI h (hR h a0 8) (ix a4)) h _ hV) rfl (kV (k := 4) (n := 226) (fun h1 hV => ?_))
      refine r_iinc (v := 1) (lo1 := [some (rv a0), some (.int a1), some (.int a2), some (.int a3), some (.int (a4 + 1))]) hC dX6_castWanted_117 rfl (by decide) (pvI rfl) rfl ?_
      refine r_goto (tgt := 93) hC dX6_castWanted_120 (by decide) ?_
      exact ih a0 a1 a2 a3 (a4 + 1) h1 hV
set_option maxRecDepth 100000 in
set_option maxHeartbeats 4000000 in
theorem ok_X6_castWanted_7 {E : Ev} {X : Xt} {l0 : Launch} {K : Int32 → Hp → Prop} (hC : Cx E X l0 RX6 cX6_castWanted 5 rm_X6_castWanted) (hQ : CQ E X "castWanted" (some .int) rm_X6_castWanted (KI K)) : ∀ (n : Nat) (a0 : Nat) (a1 : Int32) (a2 : Int32) (a3 : Int32) (a4 : Int32) (h : Hp), V_X6_castWanted_7 K n a0 a1 a2 a3 a4 h → WW E X h 0 0 7 [some (rv a0), some (.int a1), some (.int a2), some (.int a3), some (.int a4)] [] := by
  intro n
  induction n with
  | zero => intro a0 a1 a2 a3 a4 h hV; exact hV.elim
  | succ n ih =>
    intro a0 a1 a2 a3 a4 h hV
    unfold V_X6_castWanted_7 at hV
    refine r_iload hC dX6_castWanted_7 rfl ?_
    refine r_bipush (v := 29) hC dX6_castWanted_9 (by decide) ?_
    refine r_icmp_ge (tgt := 72) hC dX6_castWanted_11 (by decide) (fun k9 => ?_) (fun k9 => ?_)
    · replace hV := hV.1 k9
      refine r_iload_n hC dX6_castWanted_72 rfl ?_
      refine r_aload_n hC dX6_castWanted_73 rfl ?_
      obtain ⟨k9, hV⟩ := hV
      refine r_getR hC dX6_castWanted_74 fl_6_19 rf_6_1 lq_6 k9 ?_
      obtain ⟨k9, hV⟩ := hV
      refine r_getI hC dX6_castWanted_77 fl_6_51 rf_5_5 lq_5 k9 ?_
      refine r_icmp_le (tgt := 86) hC dX6_castWanted_80 (by decide) (fun k9 => ?_) (fun k9 => ?_)
      · replace hV := hV.1 k9
        refine r_aload_n hC dX6_castWanted_86 rfl ?_
        obtain ⟨k9, hV⟩ := hV
        refine r_callV (ci := 6) (As := []) hC dX6_castWanted_87 rfl cf_X6_recordState ml_6_55 im_X6_recordState sl_X6_recordState lq_6 rfl rfl k9 rfl ⟨(Nat.le_of_ble_eq_true rfl), (Nat.le_of_ble_eq_true rfl), (Nat.le_of_ble_eq_true rfl), (Nat.le_of_ble_eq_true rfl)⟩ cs0 (Nat.le_of_ble_eq_true rfl) (con_X6_recordState a0 h _ hV) rfl (kV (k := 4) (n := 226) (fun h1 hV => ?_))
        refine r_iconst (v := 0) hC dX6_castWanted_90 (by decide) ?_
        refine r_istore (lo1 := [some (rv a0), some (.int a1), some (.int a2), some (.int a3), some (.int 0)]) hC dX6_castWanted_91 (Nat.le_of_ble_eq_true rfl) (pvI rfl) rfl ?_
        obtain ⟨n9, hV⟩ := hV
        exact ok_X6_castWanted_93 hC hQ n9 a0 a1 a2 a3 0 h1 hV
      · replace hV := hV.2 k9
        refine r_bipush (v := (-4)) hC dX6_castWanted_83 (by decide) ?_
        exact r_iret hC hQ dX6_castWanted_85 (Nat.le_of_ble_eq_true rfl) (Nat.le_of_ble_eq_true rfl) ⟨_, rfl, hV⟩
    · replace hV := hV.2 k9
      refine r_aload_n hC dX6_castWanted_14 rfl ?_
      obtain ⟨k9, hV⟩ := hV
      refine r_getR hC dX6_castWanted_15 fl_6_19 rf_6_1 lq_6 k9 ?_
      refine r_iload_n hC dX6_castWanted_18 rfl ?_
      refine r_iload hC dX6_castWanted_19 rfl ?_
      obtain ⟨k9, hV⟩ := hV
      refine r_callV (ci := 5) (As := [.int a1, .int a4]) hC dX6_castWanted_21 rfl cf_X5_held ml_6_75 im_X5_held sl_X5_held lq_5 rfl rfl k9 rfl ⟨(Nat.le_of_ble_eq_true rfl), (Nat.le_of_ble_eq_true rfl), (Nat.le_of_ble_eq_true rfl), (Nat.le_of_ble_eq_true rfl)⟩ cs0 (Nat.le_of_ble_eq_true rfl) (con_X5_held (hR h a0 1) a1 a4 h _ hV) rfl (kI (k := 0) (n := 0) (fun r1 h1 hV => ?_))
      refine r_aload_n hC dX6_castWanted_24 rfl ?_
      obtain ⟨k9, hV⟩ := hV
      refine r_getR hC dX6_castWanted_25 fl_6_48 rf_6_8 lq_6 k9 ?_
      refine r_iload hC dX6_castWanted_28 rfl ?_
      obtain ⟨k9, k8, hV⟩ := hV
      refine r_iald (kd := 39) hC dX6_castWanted_30 (by decide) rfl k9 k8 ?_
      refine r_iadd hC dX6_castWanted_31 ?_
      refine r_bipush (v := 99) hC dX6_castWanted_32 (by decide) ?_
      refine r_icmp_le (tgt := 40) hC dX6_castWanted_34 (by decide) (fun k9 => ?_) (fun k9 => ?_)
      · replace hV := hV.1 k9
        refine r_iload_n hC dX6_castWanted_40 rfl ?_
        refine r_aload_n hC dX6_castWanted_41 rfl ?_
        obtain ⟨k9, hV⟩ := hV
        refine r_getR hC dX6_castWanted_42 fl_6_48 rf_6_8 lq_6 k9 ?_
        refine r_iload hC dX6_castWanted_45 rfl ?_
        obtain ⟨k9, k8, hV⟩ := hV
        refine r_iald (kd := 39) hC dX6_castWanted_47 (by decide) rfl k9 k8 ?_
        refine r_iload hC dX6_castWanted_48 rfl ?_
        refine r_callS (As := [.int a4]) hC dX6_castWanted_50 rfl cf_X6_widthOf ml_6_83 st_X6_widthOf rfl ⟨(Nat.le_of_ble_eq_true rfl), (Nat.le_of_ble_eq_true rfl), (Nat.le_of_ble_eq_true rfl), (Nat.le_of_ble_eq_true rfl)⟩ (csI (csI cs0)) (Nat.le_of_ble_eq_true rfl) (con_X6_widthOf a4 h1 _ hV) rfl (kI (k := 0) (n := 0) (fun r2 h2 hV => ?_))
        refine r_imul hC dX6_castWanted_53 ?_
        refine r_iadd hC dX6_castWanted_54 ?_
        refine r_istore_n (ii := 2) (lo1 := [some (rv a0), some (.int a1), some (.int (a2 + ((hI h1 (hR h1 a0 8) (ix a4)) * r2))), some (.int a3), some (.int a4)]) hC dX6_castWanted_55 rfl (Nat.le_of_ble_eq_true rfl) (pvI rfl) rfl ?_
        refine r_iload_n hC dX6_castWanted_56 rfl ?_
        refine r_aload_n hC dX6_castWanted_57 rfl ?_
        obtain ⟨k9, hV⟩ := hV
        refine r_getR hC dX6_castWanted_58 fl_6_48 rf_6_8 lq_6 k9 ?_
        refine r_iload hC dX6_castWanted_61 rfl ?_
        obtain ⟨k9, k8, hV⟩ := hV
        refine r_iald (kd := 39) hC dX6_castWanted_63 (by decide) rfl k9 k8 ?_
        refine r_iadd hC dX6_castWanted_64 ?_
        refine r_istore_n (ii := 3) (lo1 := [some (rv a0), some (.int a1), some (.int (a2 + ((hI h1 (hR h1 a0 8) (ix a4)) * r2))), some (.int (a3 + (hI h2 (hR h2 a0 8) (ix a4)))), some (.int a4)]) hC dX6_castWanted_65 rfl (Nat.le_of_ble_eq_true rfl) (pvI rfl) rfl ?_
        refine r_iinc (v := 1) (lo1 := [some (rv a0), some (.int a1), some (.int (a2 + ((hI h1 (hR h1 a0 8) (ix a4)) * r2))), some (.int (a3 + (hI h2 (hR h2 a0 8) (ix a4)))), some (.int (a4 + 1))]) hC dX6_castWanted_66 rfl (by decide) (pvI rfl) rfl ?_
        refine r_goto (tgt := 7) hC dX6_castWanted_69 (by decide) ?_
        exact ih a0 a1 (a2 + ((hI h1 (hR h1 a0 8) (ix a4)) * r2)) (a3 + (hI h2 (hR h2 a0 8) (ix a4))) (a4 + 1) h2 hV
      · replace hV := hV.2 k9
        refine r_bipush (v := (-3)) hC dX6_castWanted_37 (by decide) ?_
        exact r_iret hC hQ dX6_castWanted_39 (Nat.le_of_ble_eq_true rfl) (Nat.le_of_ble_eq_true rfl) ⟨_, rfl, hV⟩
set_option maxRecDepth 100000 in
set_option maxHeartbeats 4000000 in
theorem ok_X6_castWanted_0 {E : Ev} {X : Xt} {l0 : Launch} {K : Int32 → Hp → Prop} (hC : Cx E X l0 RX6 cX6_castWanted 5 rm_X6_castWanted) (hQ : CQ E X "castWanted" (some .int) rm_X6_castWanted (KI K)) (a0 : Nat) (a1 : Int32) (h : Hp) (hV : V_X6_castWanted a0 a1 h K) : WW E X h 0 0 0 [some (rv a0), some (.int a1), none, none, none] [] := by
  unfold V_X6_castWanted at hV
  refine r_iconst (v := 0) hC dX6_castWanted_0 (by decide) ?_
  refine r_istore_n (ii := 2) (lo1 := [some (rv a0), some (.int a1), some (.int 0), none, none]) hC dX6_castWanted_1 rfl (Nat.le_of_ble_eq_true rfl) (pvI rfl) rfl ?_
  refine r_iconst (v := 0) hC dX6_castWanted_2 (by decide) ?_
  refine r_istore_n (ii := 3) (lo1 := [some (rv a0), some (.int a1), some (.int 0), some (.int 0), none]) hC dX6_castWanted_3 rfl (Nat.le_of_ble_eq_true rfl) (pvI rfl) rfl ?_
  refine r_iconst (v := 0) hC dX6_castWanted_4 (by decide) ?_
  refine r_istore (lo1 := [some (rv a0), some (.int a1), some (.int 0), some (.int 0), some (.int 0)]) hC dX6_castWanted_5 (Nat.le_of_ble_eq_true rfl) (pvI rfl) rfl ?_
  obtain ⟨n9, hV⟩ := hV
  exact ok_X6_castWanted_7 hC hQ n9 a0 a1 0 0 0 h hV
set_option maxRecDepth 100000 in
set_option maxHeartbeats 4000000 in
theorem con_X6_castWanted {E : Ev} {l0 : Launch} (a0 : Nat) (a1 : Int32) (h : Hp) (K : Int32 → Hp → Prop) (hV : V_X6_castWanted a0 a1 h K) : Con E l0 yX6_castWanted cX6_castWanted 5 (some .int) rm_X6_castWanted [rv a0, .int a1] h (KI K) := by
  refine Con.of (by decide +kernel) (cat_R (cat_I cat_nil)) (Nat.le_of_ble_eq_true rfl) (fun X hC hQ => ?_)
  refine r_sub (lo1 := [some (rv a0), some (.int a1), none, none, none]) (show lsub [some (rv a0), some (.int a1), none, none, none] _ from ⟨Or.inr rfl, ⟨Or.inr rfl, ⟨Or.inr rfl, ⟨Or.inr rfl, ⟨Or.inr rfl, trivial⟩⟩⟩⟩⟩) ?_
  exact ok_X6_castWanted_0 hC hQ a0 a1 h hV
