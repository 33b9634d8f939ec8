theorem dX6_cast_0 : decode cX6_cast 0 = .ok (.aload_n 0, 1) := by decide +kernel
theorem dX6_cast_1 : decode cX6_cast 1 = .ok (.iload_n 1, 1) := by decide +kernel
theorem dX6_cast_2 : decode cX6_cast 2 = .ok (.invokevirtual 64, 3) := by decide +kernel
theorem dX6_cast_5 : decode cX6_cast 5 = .ok (.ifCond .eq 10, 3) := by decide +kernel
theorem dX6_cast_8 : decode cX6_cast 8 = .ok (.iload_n 2, 1) := by decide +kernel
theorem dX6_cast_9 : decode cX6_cast 9 = .ok (.invokestatic 68, 3) := by decide +kernel
theorem dX6_cast_12 : decode cX6_cast 12 = .ok (.ifCond .ne 5, 3) := by decide +kernel
theorem dX6_cast_15 : decode cX6_cast 15 = .ok (.iconst (-1), 1) := by decide +kernel
theorem dX6_cast_16 : decode cX6_cast 16 = .ok (.ireturn, 1) := by decide +kernel
theorem dX6_cast_17 : decode cX6_cast 17 = .ok (.iload_n 3, 1) := by decide +kernel
theorem dX6_cast_18 : decode cX6_cast 18 = .ok (.iconst 1, 1) := by decide +kernel
theorem dX6_cast_19 : decode cX6_cast 19 = .ok (.if_icmp .lt 9, 3) := by decide +kernel
theorem dX6_cast_22 : decode cX6_cast 22 = .ok (.iload_n 3, 1) := by decide +kernel
theorem dX6_cast_23 : decode cX6_cast 23 = .ok (.bipush 99, 2) := by decide +kernel
theorem dX6_cast_25 : decode cX6_cast 25 = .ok (.if_icmp .le 6, 3) := by decide +kernel
theorem dX6_cast_28 : decode cX6_cast 28 = .ok (.bipush (-2), 2) := by decide +kernel
theorem dX6_cast_30 : decode cX6_cast 30 = .ok (.ireturn, 1) := by decide +kernel
theorem dX6_cast_31 : decode cX6_cast 31 = .ok (.iconst 0, 1) := by decide +kernel
theorem dX6_cast_32 : decode cX6_cast 32 = .ok (.istore 4, 2) := by decide +kernel
theorem dX6_cast_34 : decode cX6_cast 34 = .ok (.iload 4, 2) := by decide +kernel
theorem dX6_cast_36 : decode cX6_cast 36 = .ok (.bipush 29, 2) := by decide +kernel
theorem dX6_cast_38 : decode cX6_cast 38 = .ok (.if_icmp .ge 27, 3) := by decide +kernel
theorem dX6_cast_41 : decode cX6_cast 41 = .ok (.aload_n 0, 1) := by decide +kernel
theorem dX6_cast_42 : decode cX6_cast 42 = .ok (.getfield 48, 3) := by decide +kernel
theorem dX6_cast_45 : decode cX6_cast 45 = .ok (.iload 4, 2) := by decide +kernel
theorem dX6_cast_47 : decode cX6_cast 47 = .ok (.iload 4, 2) := by decide +kernel
theorem dX6_cast_49 : decode cX6_cast 49 = .ok (.iload_n 2, 1) := by decide +kernel
theorem dX6_cast_50 : decode cX6_cast 50 = .ok (.if_icmp .ne 7, 3) := by decide +kernel
theorem dX6_cast_53 : decode cX6_cast 53 = .ok (.iload_n 3, 1) := by decide +kernel
theorem dX6_cast_54 : decode cX6_cast 54 = .ok (.goto 4, 3) := by decide +kernel
theorem dX6_cast_57 : decode cX6_cast 57 = .ok (.iconst 0, 1) := by decide +kernel
theorem dX6_cast_58 : decode cX6_cast 58 = .ok (.iastore, 1) := by decide +kernel
theorem dX6_cast_59 : decode cX6_cast 59 = .ok (.iinc 4 1, 3) := by decide +kernel
theorem dX6_cast_62 : decode cX6_cast 62 = .ok (.goto (-28), 3) := by decide +kernel
theorem dX6_cast_65 : decode cX6_cast 65 = .ok (.aload_n 0, 1) := by decide +kernel
theorem dX6_cast_66 : decode cX6_cast 66 = .ok (.iload_n 1, 1) := by decide +kernel
theorem dX6_cast_67 : decode cX6_cast 67 = .ok (.invokevirtual 71, 3) := by decide +kernel
theorem dX6_cast_70 : decode cX6_cast 70 = .ok (.istore 4, 2) := by decide +kernel
theorem dX6_cast_72 : decode cX6_cast 72 = .ok (.iload 4, 2) := by decide +kernel
theorem dX6_cast_74 : decode cX6_cast 74 = .ok (.ifCond .ge 8, 3) := by decide +kernel
theorem dX6_cast_77 : decode cX6_cast 77 = .ok (.iload 4, 2) := by decide +kernel
theorem dX6_cast_79 : decode cX6_cast 79 = .ok (.goto 12, 3) := by decide +kernel
theorem dX6_cast_82 : decode cX6_cast 82 = .ok (.aload_n 0, 1) := by decide +kernel
theorem dX6_cast_83 : decode cX6_cast 83 = .ok (.getfield 19, 3) := by decide +kernel
theorem dX6_cast_86 : decode cX6_cast 86 = .ok (.iload_n 1, 1) := by decide +kernel
theorem dX6_cast_87 : decode cX6_cast 87 = .ok (.iload_n 2, 1) := by decide +kernel
theorem dX6_cast_88 : decode cX6_cast 88 = .ok (.invokevirtual 75, 3) := by decide +kernel
theorem dX6_cast_91 : decode cX6_cast 91 = .ok (.ireturn, 1) := by decide +kernel
def rm_X6_cast : Room := { frames := 4, cells := 4, slots := 226, locals := 92 }
set_option maxRecDepth 100000 in
set_option maxHeartbeats 4000000 in
theorem ok_X6_cast_15 {E : Ev} {X : Xt} {l0 : Launch} {K : Int32 → Hp → Prop} (hC : Cx E X l0 RX6 cX6_cast 5 rm_X6_cast) (hQ : CQ E X "cast" (some .int) rm_X6_cast (KI K)) (h : Hp) (hV : V_X6_cast_15 K  h) : WW E X h 0 0 15 [none, none, none, none, none] [] := by
  unfold V_X6_cast_15 at hV
  refine r_iconst (v := (-1)) hC dX6_cast_15 (by decide) ?_
  exact r_iret hC hQ dX6_cast_16 (Nat.le_of_ble_eq_true rfl) (Nat.le_of_ble_eq_true rfl) ⟨_, rfl, hV⟩
set_option maxRecDepth 100000 in
set_option maxHeartbeats 4000000 in
theorem ok_X6_cast_28 {E : Ev} {X : Xt} {l0 : Launch} {K : Int32 → Hp → Prop} (hC : Cx E X l0 RX6 cX6_cast 5 rm_X6_cast) (hQ : CQ E X "cast" (some .int) rm_X6_cast (KI K)) (h : Hp) (hV : V_X6_cast_28 K  h) : WW E X h 0 0 28 [none, none, none, none, none] [] := by
  unfold V_X6_cast_28 at hV
  refine r_bipush (v := (-2)) hC dX6_cast_28 (by decide) ?_
  exact r_iret hC hQ dX6_cast_30 (Nat.le_of_ble_eq_true rfl) (Nat.le_of_ble_eq_true rfl) ⟨_, rfl, hV⟩
set_option maxRecDepth 100000 in
set_option maxHeartbeats 4000000 in
theorem ok_X6_cast_58 {E : Ev} {X : Xt} {l0 : Launch} {K : Int32 → Hp → Prop} {C34 : Nat → Int32 → Int32 → Int32 → Int32 → Hp → Prop} (hC : Cx E X l0 RX6 cX6_cast 5 rm_X6_cast) (hQ : CQ E X "cast" (some .int) rm_X6_cast (KI K)) (hC34 : ∀ (a0 : Nat) (a1 : Int32) (a2 : Int32) (a3 : Int32) (a4 : Int32) (h : Hp), C34 a0 a1 a2 a3 a4 h → WW E X h 0 0 34 [some (rv a0), some (.int a1), some (.int a2), some (.int a3), some (.int a4)] []) (a0 : Nat) (a1 : Int32) (a2 : Int32) (a3 : Int32) (a4 : Int32) (s0 : Nat) (s1 : Int32) (s2 : Int32) (h : Hp) (hV : V_X6_cast_58 K C34 a0 a1 a2 a3 a4 s0 s1 s2 h) : WW E X h 0 0 58 [some (rv a0), some (.int a1), some (.int a2), some (.int a3), some (.int a4)] [.int s2, .int s1, rv s0] := by
  unfold V_X6_cast_58 at hV
  obtain ⟨k9, k8, hV⟩ := hV
  refine r_iast (kd := 39) hC dX6_cast_58 (by decide) rfl k9 k8 (nmH (fun h1 k9 => ?_))
  replace hV := hV h1 k9
  refine r_iinc (v := 1) (lo1 := [some (rv a0), some (.int a1), some (.int a2), some (.int a3), some (.int (a4 + 1))]) hC dX6_cast_59 rfl (by decide) (pvI rfl) rfl ?_
  refine r_goto (tgt := 34) hC dX6_cast_62 (by decide) ?_
  exact hC34 a0 a1 a2 a3 (a4 + 1) h1 hV
set_option maxRecDepth 100000 in
set_option maxHeartbeats 4000000 in
theorem ok_X6_cast_91 {E : Ev} {X : Xt} {l0 : Launch} {K : Int32 → Hp → Prop} (hC : Cx E X l0 RX6 cX6_cast 5 rm_X6_cast) (hQ : CQ E X "cast" (some .int) rm_X6_cast (KI K)) (s0 : Int32) (h : Hp) (hV : V_X6_cast_91 K s0 h) : WW E X h 4 226 91 [none, none, none, none, none] [.int s0] := by
  unfold V_X6_cast_91 at hV
  exact r_iret hC hQ dX6_cast_91 (Nat.le_of_ble_eq_true rfl) (Nat.le_of_ble_eq_true rfl) ⟨_, rfl, hV⟩
set_option maxRecDepth 100000 in
set_option maxHeartbeats 4000000 in
theorem ok_X6_cast_34 {E : Ev} {X : Xt} {l0 : Launch} {K : Int32 → Hp → Prop} (hC : Cx E X l0 RX6 cX6_cast 5 rm_X6_cast) (hQ : CQ E X "cast" (some .int) rm_X6_cast (KI K)) : ∀ (n : Nat) (a0 : Nat) (a1 : Int32) (a2 : Int32) (a3 : Int32) (a4 : Int32) (h : Hp), V_X6_cast_34 K n a0 a1 a2 a3 a4 h → WW E X h 0 0 34 [some (rv a0), some (.int a1), some (.int a2), some (.int a3), some (.int a4)] [] := by
  intro n
  induction n with
  | zero => intro a0 a1 a2 a3 a4 h hV; exact hV.elim
  | succ n ih =>
    intro a0 a1 a2 a3 a4 h hV
    unfold V_X6_cast_34 at hV
    refine r_iload hC dX6_cast_34 rfl ?_
    refine r_bipush (v := 29) hC dX6_cast_36 (by decide) ?_
    refine r_icmp_ge (tgt := 65) hC dX6_cast_38 (by decide) (fun k9 => ?_) (fun k9 => ?_)
    · replace hV := hV.1 k9
      refine r_aload_n hC dX6_cast_65 rfl ?_
      refine r_iload_n hC dX6_cast_66 rfl ?_
      obtain ⟨k9, hV⟩ := hV
      refine r_callV (ci := 6) (As := [.int a1]) hC dX6_cast_67 rfl cf_X6_castWanted ml_6_71 im_X6_castWanted sl_X6_castWanted lq_6 rfl rfl k9 rfl ⟨(Nat.le_of_ble_eq_true rfl), (Nat.le_of_ble_eq_true rfl), (Nat.le_of_ble_eq_true rfl), (Nat.le_of_ble_eq_true rfl)⟩ cs0 (Nat.le_of_ble_eq_true rfl) (con_X6_castWanted a0 a1 h _ hV) rfl (kI (k := 4) (n := 226) (fun r1 h1 hV => ?_))
      refine r_istore (lo1 := [some (rv a0), some (.int a1), some (.int a2), some (.int a3), some (.int r1)]) hC dX6_cast_70 (Nat.le_of_ble_eq_true rfl) (pvI rfl) rfl ?_
      refine r_iload hC dX6_cast_72 rfl ?_
      refine r_if_ge (tgt := 82) hC dX6_cast_74 (by decide) (fun k9 => ?_) (fun k9 => ?_)
      · replace hV := hV.1 k9
        refine r_aload_n hC dX6_cast_82 rfl ?_
        obtain ⟨k9, hV⟩ := hV
        refine r_getR hC dX6_cast_83 fl_6_19 rf_6_1 lq_6 k9 ?_
        refine r_iload_n hC dX6_cast_86 rfl ?_
        refine r_iload_n hC dX6_cast_87 rfl ?_
        obtain ⟨k9, hV⟩ := hV
        refine r_callV (ci := 5) (As := [.int a1, .int a2]) hC dX6_cast_88 rfl cf_X5_held ml_6_75 im_X5_held sl_X5_held lq_5 rfl rfl k9 rfl ⟨(Nat.le_of_ble_eq_true rfl), (Nat.le_of_ble_eq_true rfl), (Nat.le_of_ble_eq_true rfl), (Nat.le_of_ble_eq_true rfl)⟩ cs0 (Nat.le_of_ble_eq_true rfl) (con_X5_held (hR h1 a0 1) a1 a2 h1 _ hV) rfl (kI (k := 4) (n := 226) (fun r2 h2 hV => ?_))
        refine r_sub (lo1 := [none, none, none, none, none]) ⟨Or.inl rfl, ⟨Or.inl rfl, ⟨Or.inl rfl, ⟨Or.inl rfl, ⟨Or.inl rfl, trivial⟩⟩⟩⟩⟩ ?_
        exact ok_X6_cast_91 hC hQ r2 h2 hV
      · replace hV := hV.2 k9
        refine r_iload hC dX6_cast_77 rfl ?_
        refine r_goto (tgt := 91) hC dX6_cast_79 (by decide) ?_
        refine r_sub (lo1 := [none, none, none, none, none]) ⟨Or.inl rfl, ⟨Or.inl rfl, ⟨Or.inl rfl, ⟨Or.inl rfl, ⟨Or.inl rfl, trivial⟩⟩⟩⟩⟩ ?_
        exact ok_X6_cast_91 hC hQ r1 h1 hV
    · replace hV := hV.2 k9
      refine r_aload_n hC dX6_cast_41 rfl ?_
      obtain ⟨k9, hV⟩ := hV
      refine r_getR hC dX6_cast_42 fl_6_48 rf_6_8 lq_6 k9 ?_
      refine r_iload hC dX6_cast_45 rfl ?_
      refine r_iload hC dX6_cast_47 rfl ?_
      refine r_iload_n hC dX6_cast_49 rfl ?_
      refine r_icmp_ne (tgt := 57) hC dX6_cast_50 (by decide) (fun k9 => ?_) (fun k9 => ?_)
      · replace hV := hV.1 k9
        refine r_iconst (v := 0) hC dX6_cast_57 (by decide) ?_
        exact ok_X6_cast_58 hC hQ ih a0 a1 a2 a3 a4 (hR h a0 8) a4 0 h hV
      · replace hV := hV.2 k9
        refine r_iload_n hC dX6_cast_53 rfl ?_
        refine r_goto (tgt := 58) hC dX6_cast_54 (by decide) ?_
        exact ok_X6_cast_58 hC hQ ih a0 a1 a2 a3 a4 (hR h a0 8) a4 a3 h hV
set_option maxRecDepth 100000 in
set_option maxHeartbeats 4000000 in
theorem ok_X6_cast_0 {E : Ev} {X : Xt} {l0 : Launch} {K : Int32 → Hp → Prop} (hC : Cx E X l0 RX6 cX6_cast 5 rm_X6_cast) (hQ : CQ E X "cast" (some .int) rm_X6_cast (KI K)) (a0 : Nat) (a1 : Int32) (a2 : Int32) (a3 : Int32) (h : Hp) (hV : V_X6_cast a0 a1 a2 a3 h K) : WW E X h 0 0 0 [some (rv a0), some (.int a1), some (.int a2), some (.int a3), none] [] := by
  unfold V_X6_cast at hV
  refine r_aload_n hC dX6_cast_0 rfl ?_
  refine r_iload_n hC dX6_cast_1 rfl ?_
  obtain ⟨k9, hV⟩ := hV
  refine r_callV (ci := 6) (As := [.int a1]) hC dX6_cast_2 rfl cf_X6_isCase ml_6_64 im_X6_isCase sl_X6_isCase lq_6 rfl rfl k9 rfl ⟨(Nat.le_of_ble_eq_true rfl), (Nat.le_of_ble_eq_true rfl), (Nat.le_of_ble_eq_true rfl), (Nat.le_of_ble_eq_true rfl)⟩ cs0 (Nat.le_of_ble_eq_true rfl) (con_X6_isCase a0 a1 h _ hV) rfl (kI (k := 0) (n := 0) (fun r1 h1 hV => ?_))
  refine r_if_eq (tgt := 15) hC dX6_cast_5 (by decide) (fun k9 => ?_) (fun k9 => ?_)
  · replace hV := hV.1 k9
    refine r_sub (lo1 := [none, none, none, none, none]) ⟨Or.inl rfl, ⟨Or.inl rfl, ⟨Or.inl rfl, ⟨Or.inl rfl, ⟨Or.inl rfl, trivial⟩⟩⟩⟩⟩ ?_
    exact ok_X6_cast_15 hC hQ  h1 hV
  · replace hV := hV.2 k9
    refine r_iload_n hC dX6_cast_8 rfl ?_
    refine r_callS (As := [.int a2]) hC dX6_cast_9 rfl cf_X6_isSort ml_6_68 st_X6_isSort rfl ⟨(Nat.le_of_ble_eq_true rfl), (Nat.le_of_ble_eq_true rfl), (Nat.le_of_ble_eq_true rfl), (Nat.le_of_ble_eq_true rfl)⟩ cs0 (Nat.le_of_ble_eq_true rfl) (con_X6_isSort a2 h1 _ hV) rfl (kI (k := 0) (n := 0) (fun r2 h2 hV => ?_))
    refine r_if_ne (tgt := 17) hC dX6_cast_12 (by decide) (fun k9 => ?_) (fun k9 => ?_)
    · replace hV := hV.1 k9
      refine r_iload_n hC dX6_cast_17 rfl ?_
      refine r_iconst (v := 1) hC dX6_cast_18 (by decide) ?_
      refine r_icmp_lt (tgt := 28) hC dX6_cast_19 (by decide) (fun k9 => ?_) (fun k9 => ?_)
      · replace hV := hV.1 k9
        refine r_sub (lo1 := [none, none, none, none, none]) ⟨Or.inl rfl, ⟨Or.inl rfl, ⟨Or.inl rfl, ⟨Or.inl rfl, ⟨Or.inl rfl, trivial⟩⟩⟩⟩⟩ ?_
        exact ok_X6_cast_28 hC hQ  h2 hV
      · replace hV := hV.2 k9
        refine r_iload_n hC dX6_cast_22 rfl ?_
        refine r_bipush (v := 99) hC dX6_cast_23 (by decide) ?_
        refine r_icmp_le (tgt := 31) hC dX6_cast_25 (by decide) (fun k9 => ?_) (fun k9 => ?_)
        · replace hV := hV.1 k9
          refine r_iconst (v := 0) hC dX6_cast_31 (by decide) ?_
          refine r_istore (lo1 := [some (rv a0), some (.int a1), some (.int a2), some (.int a3), some (.int 0)]) hC dX6_cast_32 (Nat.le_of_ble_eq_true rfl) (pvI rfl) rfl ?_
          obtain ⟨n9, hV⟩ := hV
          exact ok_X6_cast_34 hC hQ n9 a0 a1 a2 a3 0 h2 hV
        · replace hV := hV.2 k9
          refine r_sub (lo1 := [none, none, none, none, none]) ⟨Or.inl rfl, ⟨Or.inl rfl, ⟨Or.inl rfl, ⟨Or.inl rfl, ⟨Or.inl rfl, trivial⟩⟩⟩⟩⟩ ?_
          exact ok_X6_cast_28 hC hQ  h2 hV
    · replace hV := hV.2 k9
      refine r_sub (lo1 := [none, none, none, none, none]) ⟨Or.inl rfl, ⟨Or.inl rfl, ⟨Or.inl rfl, ⟨Or.inl rfl, ⟨Or.inl rfl, trivial⟩⟩⟩⟩⟩ ?_
      exact ok_X6_cast_15 hC hQ  h2 hV
set_option maxRecDepth 100000 in
set_option maxHeartbeats 4000000 in
theorem con_X6_cast {E : Ev} {l0 : Launch} (a0 : Nat) (a1 : Int32) (a2 : Int32) (a3 : Int32) (h : Hp) (K : Int32 → Hp → Prop) (hV : V_X6_cast a0 a1 a2 a3 h K) : Con E l0 yX6_cast cX6_cast 5 (some .int) rm_X6_cast [rv a0, .int a1, .int a2, .int a3] h (KI K) := by
  refine Con.of (by decide +kernel) (cat_R (cat_I (cat_I (cat_I cat_nil)))) (Nat.le_of_ble_eq_true rfl) (fun X hC hQ => ?_)
  refine r_sub (lo1 := [some (rv a0), some (.int a1), some (.int a2), some (.int a3), none]) (show lsub [some (rv a0), some (.int a1), some (.int a2), some (.int a3), none] _ from ⟨Or.inr rfl, ⟨Or.inr rfl, ⟨Or.inr rfl, ⟨Or.inr rfl, ⟨Or.inr rfl, trivial⟩⟩⟩⟩⟩) ?_
  exact ok_X6_cast_0 hC hQ a0 a1 a2 a3 h hV
theorem dX6_castFount_0 : decode cX6_castFount 0 = .ok (.aload_n 0, 1) := by decide +kernel
theorem dX6_castFount_1 : decode cX6_castFount 1 = .ok (.iload_n 1, 1) := by decide +kernel
theorem dX6_castFount_2 : decode cX6_castFount 2 = .ok (.invokevirtual 64, 3) := by decide +kernel
theorem dX6_castFount_5 : decode cX6_castFount 5 = .ok (.ifCond .ne 5, 3) := by decide +kernel
theorem dX6_castFount_8 : decode cX6_castFount 8 = .ok (.iconst (-1), 1) := by decide +kernel
theorem dX6_castFount_9 : decode cX6_castFount 9 = .ok (.ireturn, 1) := by decide +kernel
theorem dX6_castFount_10 : decode cX6_castFount 10 = .ok (.iload_n 2, 1) := by decide +kernel
theorem dX6_castFount_11 : decode cX6_castFount 11 = .ok (.iconst 1, 1) := by decide +kernel
theorem dX6_castFount_12 : decode cX6_castFount 12 = .ok (.if_icmp .lt 9, 3) := by decide +kernel
theorem dX6_castFount_15 : decode cX6_castFount 15 = .ok (.iload_n 2, 1) := by decide +kernel
theorem dX6_castFount_16 : decode cX6_castFount 16 = .ok (.bipush 9, 2) := by decide +kernel
theorem dX6_castFount_18 : decode cX6_castFount 18 = .ok (.if_icmp .le 6, 3) := by decide +kernel
theorem dX6_castFount_21 : decode cX6_castFount 21 = .ok (.bipush (-2), 2) := by decide +kernel
theorem dX6_castFount_23 : decode cX6_castFount 23 = .ok (.ireturn, 1) := by decide +kernel
theorem dX6_castFount_24 : decode cX6_castFount 24 = .ok (.iconst 0, 1) := by decide +kernel
theorem dX6_castFount_25 : decode cX6_castFount 25 = .ok (.istore_n 3, 1) := by decide +kernel
theorem dX6_castFount_26 : decode cX6_castFount 26 = .ok (.iload_n 3, 1) := by decide +kernel
theorem dX6_castFount_27 : decode cX6_castFount 27 = .ok (.bipush 29, 2) := by decide +kernel
theorem dX6_castFount_29 : decode cX6_castFount 29 = .ok (.if_icmp .ge 28, 3) := by decide +kernel
theorem dX6_castFount_32 : decode cX6_castFount 32 = .ok (.aload_n 0, 1) := by decide +kernel
theorem dX6_castFount_33 : decode cX6_castFount 33 = .ok (.getfield 48, 3) := by decide +kernel
theorem dX6_castFount_36 : decode cX6_castFount 36 = .ok (.iload_n 3, 1) := by decide +kernel
theorem dX6_castFount_37 : decode cX6_castFount 37 = .ok (.iload_n 3, 1) := by decide +kernel
theorem dX6_castFount_38 : decode cX6_castFount 38 = .ok (.bipush 26, 2) := by decide +kernel
theorem dX6_castFount_40 : decode cX6_castFount 40 = .ok (.if_icmp .ge 7, 3) := by decide +kernel
theorem dX6_castFount_43 : decode cX6_castFount 43 = .ok (.iload_n 2, 1) := by decide +kernel
theorem dX6_castFount_44 : decode cX6_castFount 44 = .ok (.goto 6, 3) := by decide +kernel
theorem dX6_castFount_47 : decode cX6_castFount 47 = .ok (.iconst 2, 1) := by decide +kernel
theorem dX6_castFount_48 : decode cX6_castFount 48 = .ok (.iload_n 2, 1) := by decide +kernel
theorem dX6_castFount_49 : decode cX6_castFount 49 = .ok (.imul, 1) := by decide +kernel
theorem dX6_castFount_50 : decode cX6_castFount 50 = .ok (.iastore, 1) := by decide +kernel
theorem dX6_castFount_51 : decode cX6_castFount 51 = .ok (.iinc 3 1, 3) := by decide +kernel
theorem dX6_castFount_54 : decode cX6_castFount 54 = .ok (.goto (-28), 3) := by decide +kernel
theorem dX6_castFount_57 : decode cX6_castFount 57 = .ok (.aload_n 0, 1) := by decide +kernel
theorem dX6_castFount_58 : decode cX6_castFount 58 = .ok (.iload_n 1, 1) := by decide +kernel
theorem dX6_castFount_59 : decode cX6_castFount 59 = .ok (.invokevirtual 71, 3) := by decide +kernel
theorem dX6_castFount_62 : decode cX6_castFount 62 = .ok (.ireturn, 1) := by decide +kernel
def rm_X6_castFount : Room := { frames := 4, cells := 4, slots := 226, locals := 92 }
set_option maxRecDepth 100000 in
set_option maxHeartbeats 4000000 in
theorem ok_X6_castFount_21 {E : Ev} {X : Xt} {l0 : Launch} {K : Int32 → Hp → Prop} (hC : Cx E X l0 RX6 cX6_castFount 4 rm_X6_castFount) (hQ : CQ E X "castFount" (some .int) rm_X6_castFount (KI K)) (h : Hp) (hV : V_X6_castFount_21 K  h) : WW E X h 0 0 21 [none, none, none, none] [] := by
  unfold V_X6_castFount_21 at hV
  refine r_bipush (v := (-2)) hC dX6_castFount_21 (by decide) ?_
  exact r_iret hC hQ dX6_castFount_23 (Nat.le_of_ble_eq_true rfl) (Nat.le_of_ble_eq_true rfl) ⟨_, rfl, hV⟩
set_option maxRecDepth 100000 in
set_option maxHeartbeats 4000000 in
theorem ok_X6_castFount_50 {E : Ev} {X : Xt} {l0 : Launch} {K : Int32 → Hp → Prop} {C26 : Nat → Int32 → Int32 → Int32 → Hp → Prop} (hC : Cx E X l0 RX6 cX6_castFount 4 rm_X6_castFount) (hQ : CQ E X "castFount" (some .int) rm_X6_castFount (KI K)) (hC26 : ∀ (a0 : Nat) (a1 : Int32) (a2 : Int32) (a3 : Int32) (h : Hp), C26 a0 a1 a2 a3 h → WW E X h 0 0 26 [some (rv a0), some (.int a1), some (.int a2), some (.int a3)] []) (a0 : Nat) (a1 : Int32) (a2 : Int32) (a3 : Int32) (s0 : Nat) (s1 : Int32) (s2 : Int32) (h : Hp) (hV : V_X6_castFount_50 K C26 a0 a1 a2 a3 s0 s1 s2 h) : WW E X h 0 0 50 [some (rv a0), some (.int a1), some (.int a2), some (.int a3)] [.int s2, .int s1, rv s0] := by
  unfold V_X6_castFount_50 at hV
  obtain ⟨k9, k8, hV⟩ := hV
  refine r_iast (kd := 39) hC dX6_castFount_50 (by decide) rfl k9 k8 (nmH (fun h1 k9 => ?_))
  replace hV := hV h1 k9
  refine r_iinc (v := 1) (lo1 := [some (rv a0), some (.int a1), some (.int a2), some (.int (a3 + 1))]) hC dX6_castFount_51 rfl (by decide) (pvI rfl) rfl ?_
  refine r_goto (tgt := 26) hC dX6_castFount_54 (by decide) ?_
  exact hC26 a0 a1 a2 (a3 + 1) h1 hV
set_option maxRecDepth 100000 in
set_option maxHeartbeats 4000000 in
theorem ok_X6_castFount_26 {E : Ev} {X : Xt} {l0 : Launch} {K : Int32 → Hp → Prop} (hC : Cx E X l0 RX6 cX6_castFount 4 rm_X6_castFount) (hQ : CQ E X "castFount" (some .int) rm_X6_castFount (KI K)) : ∀ (n : Nat) (a0 : Nat) (a1 : Int32) (a2 : Int32) (a3 : Int32) (h : Hp), V_X6_castFount_26 K n a0 a1 a2 a3 h → WW E X h 0 0 26 [some (rv a0), some (.int a1), some (.int a2), some (.int a3)] [] := by
  intro n
  induction n with
  | zero => intro a0 a1 a2 a3 h hV; exact hV.elim
  | succ n ih =>
    intro a0 a1 a2 a3 h hV
    unfold V_X6_castFount_26 at hV
    refine r_iload_n hC dX6_castFount_26 rfl ?_
    refine r_bipush (v := 29) hC dX6_castFount_27 (by decide) ?_
    refine r_icmp_ge (tgt := 57) hC dX6_castFount_29 (by decide) (fun k9 => ?_) (fun k9 => ?_)
    · replace hV := hV.1 k9
      refine r_aload_n hC dX6_castFount_57 rfl ?_
      refine r_iload_n hC dX6_castFount_58 rfl ?_
      obtain ⟨k9, hV⟩ := hV
      refine r_callV (ci := 6) (As := [.int a1]) hC dX6_castFount_59 rfl cf_X6_castWanted ml_6_71 im_X6_castWanted sl_X6_castWanted lq_6 rfl rfl k9 rfl ⟨(Nat.le_of_ble_eq_true rfl), (Nat.le_of_ble_eq_true rfl), (Nat.le_of_ble_eq_true rfl), (Nat.le_of_ble_eq_true rfl)⟩ cs0 (Nat.le_of_ble_eq_true rfl) (con_X6_castWanted a0 a1 h _ hV) rfl (kI (k := 4) (n := 226) (fun r1 h1 hV => ?_))
      exact r_iret hC hQ dX6_castFount_62 (Nat.le_of_ble_eq_true rfl) (Nat.le_of_ble_eq_true rfl) ⟨_, rfl, hV⟩
    · replace hV := hV.2 k9
      refine r_aload_n hC dX6_castFount_32 rfl ?_
      obtain ⟨k9, hV⟩ := hV
      refine r_getR hC dX6_castFount_33 fl_6_48 rf_6_8 lq_6 k9 ?_
      refine r_iload_n hC dX6_castFount_36 rfl ?_
      refine r_iload_n hC dX6_castFount_37 rfl ?_
      refine r_bipush (v := 26) hC dX6_castFount_38 (by decide) ?_
      refine r_icmp_ge (tgt := 47) hC dX6_castFount_40 (by decide) (fun k9 => ?_) (fun k9 => ?_)
      · replace hV := hV.1 k9
        refine r_iconst (v := 2) hC dX6_castFount_47 (by decide) ?_
        refine r_iload_n hC dX6_castFount_48 rfl ?_
        refine r_imul hC dX6_castFount_49 ?_
        exact ok_X6_castFount_50 hC hQ ih a0 a1 a2 a3 (hR h a0 8) a3 (2 * a2) h hV
      · replace hV := hV.2 k9
        refine r_iload_n hC dX6_castFount_43 rfl ?_
        refine r_goto (tgt := 50) hC dX6_castFount_44 (by decide) ?_
        exact ok_X6_castFount_50 hC hQ ih a0 a1 a2 a3 (hR h a0 8) a3 a2 h hV
set_option maxRecDepth 100000 in
set_option maxHeartbeats 4000000 in
theorem ok_X6_castFount_0 {E : Ev} {X : Xt} {l0 : Launch} {K : Int32 → Hp → Prop} (hC : Cx E X l0 RX6 cX6_castFount 4 rm_X6_castFount) (hQ : CQ E X "castFount" (some .int) rm_X6_castFount (KI K)) (a0 : Nat) (a1 : Int32) (a2 : Int32) (h : Hp) (hV : V_X6_castFount a0 a1 a2 h K) : WW E X h 0 0 0 [some (rv a0), some (.int a1), some (.int a2), none] [] := by
  unfold V_X6_castFount at hV
  refine r_aload_n hC dX6_castFount_0 rfl ?_
  refine r_iload_n hC dX6_castFount_1 rfl ?_
  obtain ⟨k9, hV⟩ := hV
  refine r_callV (ci := 6) (As := [.int a1]) hC dX6_castFount_2 rfl cf_X6_isCase ml_6_64 im_X6_isCase sl_X6_isCase lq_6 rfl rfl k9 rfl ⟨(Nat.le_of_ble_eq_true rfl), (Nat.le_of_ble_eq_true rfl), (Nat.le_of_ble_eq_true rfl), (Nat.le_of_ble_eq_true rfl)⟩ cs0 (Nat.le_of_ble_eq_true rfl) (con_X6_isCase a0 a1 h _ hV) rfl (kI (k := 0) (n := 0) (fun r1 h1 hV => ?_))
  refine r_if_ne (tgt := 10) hC dX6_castFount_5 (by decide) (fun k9 => ?_) (fun k9 => ?_)
  · replace hV := hV.1 k9
    refine r_iload_n hC dX6_castFount_10 rfl ?_
    refine r_iconst (v := 1) hC dX6_castFount_11 (by decide) ?_
    refine r_icmp_lt (tgt := 21) hC dX6_castFount_12 (by decide) (fun k9 => ?_) (fun k9 => ?_)
    · replace hV := hV.1 k9
      refine r_sub (lo1 := [none, none, none, none]) ⟨Or.inl rfl, ⟨Or.inl rfl, ⟨Or.inl rfl, ⟨Or.inl rfl, trivial⟩⟩⟩⟩ ?_
      exact ok_X6_castFount_21 hC hQ  h1 hV
    · replace hV := hV.2 k9
      refine r_iload_n hC dX6_castFount_15 rfl ?_
      refine r_bipush (v := 9) hC dX6_castFount_16 (by decide) ?_
      refine r_icmp_le (tgt := 24) hC dX6_castFount_18 (by decide) (fun k9 => ?_) (fun k9 => ?_)
      · replace hV := hV.1 k9
        refine r_iconst (v := 0) hC dX6_castFount_24 (by decide) ?_
        refine r_istore_n (ii := 3) (lo1 := [some (rv a0), some (.int a1), some (.int a2), some (.int 0)]) hC dX6_castFount_25 rfl (Nat.le_of_ble_eq_true rfl) (pvI rfl) rfl ?_
        obtain ⟨n9, hV⟩ := hV
        exact ok_X6_castFount_26 hC hQ n9 a0 a1 a2 0 h1 hV
      · replace hV := hV.2 k9
        refine r_sub (lo1 := [none, none, none, none]) ⟨Or.inl rfl, ⟨Or.inl rfl, ⟨Or.inl rfl, ⟨Or.inl rfl, trivial⟩⟩⟩⟩ ?_
        exact ok_X6_castFount_21 hC hQ  h1 hV
  · replace hV := hV.2 k9
    refine r_iconst (v := (-1)) hC dX6_castFount_8 (by decide) ?_
    exact r_iret hC hQ dX6_castFount_9 (Nat.le_of_ble_eq_true rfl) (Nat.le_of_ble_eq_true rfl) ⟨_, rfl, hV⟩
set_option maxRecDepth 100000 in
set_option maxHeartbeats 4000000 in
theorem con_X6_castFount {E : Ev} {l0 : Launch} (a0 : Nat) (a1 : Int32) (a2 : Int32) (h : Hp) (K : Int32 → Hp → Prop) (hV : V_X6_castFount a0 a1 a2 h K) : Con E l0 yX6_castFount cX6_castFount 4 (some .int) rm_X6_castFount [rv a0, .int a1, .int a2] h (KI K) := by
  refine Con.of (by decide +kernel) (cat_R (cat_I (cat_I cat_nil))) (Nat.le_of_ble_eq_true rfl) (fun X hC hQ => ?_)
  refine r_sub (lo1 := [some (rv a0), some (.int a1), some (.int a2), none]) (show lsub [some (rv a0), some (.int a1), some (.int a2), none] _ from ⟨Or.inr rfl, ⟨Or.inr rfl, ⟨Or.inr rfl, ⟨Or.inr rfl, trivial⟩⟩⟩⟩) ?_
  exact ok_X6_castFount_0 hC hQ a0 a1 a2 h hV
theorem dX6_reckon_0 : decode cX6_reckon 0 = .ok (.aload_n 1, 1) := by decide +kernel
theorem dX6_reckon_1 : decode cX6_reckon 1 = .ok (.getfield 152, 3) := by decide +kernel
theorem dX6_reckon_4 : decode cX6_reckon 4 = .ok (.getfield 202, 3) := by decide +kernel
theorem dX6_reckon_7 : decode cX6_reckon 7 = .ok (.astore_n 2, 1) := by decide +kernel
theorem dX6_reckon_8 : decode cX6_reckon 8 = .ok (.iconst 0, 1) := by decide +kernel
theorem dX6_reckon_9 : decode cX6_reckon 9 = .ok (.istore_n 3, 1) := by decide +kernel
theorem dX6_reckon_10 : decode cX6_reckon 10 = .ok (.iload_n 3, 1) := by decide +kernel
theorem dX6_reckon_11 : decode cX6_reckon 11 = .ok (.bipush 29, 2) := by decide +kernel
theorem dX6_reckon_13 : decode cX6_reckon 13 = .ok (.if_icmp .ge 29, 3) := by decide +kernel
theorem dX6_reckon_16 : decode cX6_reckon 16 = .ok (.aload_n 0, 1) := by decide +kernel
theorem dX6_reckon_17 : decode cX6_reckon 17 = .ok (.getfield 45, 3) := by decide +kernel
theorem dX6_reckon_20 : decode cX6_reckon 20 = .ok (.iload_n 3, 1) := by decide +kernel
theorem dX6_reckon_21 : decode cX6_reckon 21 = .ok (.aload_n 0, 1) := by decide +kernel
theorem dX6_reckon_22 : decode cX6_reckon 22 = .ok (.getfield 19, 3) := by decide +kernel
theorem dX6_reckon_25 : decode cX6_reckon 25 = .ok (.iload_n 3, 1) := by decide +kernel
theorem dX6_reckon_26 : decode cX6_reckon 26 = .ok (.invokevirtual 255, 3) := by decide +kernel
theorem dX6_reckon_29 : decode cX6_reckon 29 = .ok (.aload_n 1, 1) := by decide +kernel
theorem dX6_reckon_30 : decode cX6_reckon 30 = .ok (.iload_n 3, 1) := by decide +kernel
theorem dX6_reckon_31 : decode cX6_reckon 31 = .ok (.invokevirtual 258, 3) := by decide +kernel
theorem dX6_reckon_34 : decode cX6_reckon 34 = .ok (.iadd, 1) := by decide +kernel
theorem dX6_reckon_35 : decode cX6_reckon 35 = .ok (.iastore, 1) := by decide +kernel
theorem dX6_reckon_36 : decode cX6_reckon 36 = .ok (.iinc 3 1, 3) := by decide +kernel
theorem dX6_reckon_39 : decode cX6_reckon 39 = .ok (.goto (-29), 3) := by decide +kernel
theorem dX6_reckon_42 : decode cX6_reckon 42 = .ok (.iconst 0, 1) := by decide +kernel
theorem dX6_reckon_43 : decode cX6_reckon 43 = .ok (.istore_n 3, 1) := by decide +kernel
theorem dX6_reckon_44 : decode cX6_reckon 44 = .ok (.iload_n 3, 1) := by decide +kernel
theorem dX6_reckon_45 : decode cX6_reckon 45 = .ok (.bipush 26, 2) := by decide +kernel
theorem dX6_reckon_47 : decode cX6_reckon 47 = .ok (.if_icmp .ge 21, 3) := by decide +kernel
theorem dX6_reckon_50 : decode cX6_reckon 50 = .ok (.aload_n 0, 1) := by decide +kernel
theorem dX6_reckon_51 : decode cX6_reckon 51 = .ok (.getfield 41, 3) := by decide +kernel
theorem dX6_reckon_54 : decode cX6_reckon 54 = .ok (.iload_n 3, 1) := by decide +kernel
theorem dX6_reckon_55 : decode cX6_reckon 55 = .ok (.aload_n 2, 1) := by decide +kernel
theorem dX6_reckon_56 : decode cX6_reckon 56 = .ok (.getfield 261, 3) := by decide +kernel
theorem dX6_reckon_59 : decode cX6_reckon 59 = .ok (.iload_n 3, 1) := by decide +kernel
theorem dX6_reckon_60 : decode cX6_reckon 60 = .ok (.iaload, 1) := by decide +kernel
theorem dX6_reckon_61 : decode cX6_reckon 61 = .ok (.iastore, 1) := by decide +kernel
theorem dX6_reckon_62 : decode cX6_reckon 62 = .ok (.iinc 3 1, 3) := by decide +kernel
theorem dX6_reckon_65 : decode cX6_reckon 65 = .ok (.goto (-21), 3) := by decide +kernel
theorem dX6_reckon_68 : decode cX6_reckon 68 = .ok (.aload_n 0, 1) := by decide +kernel
theorem dX6_reckon_69 : decode cX6_reckon 69 = .ok (.getfield 37, 3) := by decide +kernel
theorem dX6_reckon_72 : decode cX6_reckon 72 = .ok (.aload_n 0, 1) := by decide +kernel
theorem dX6_reckon_73 : decode cX6_reckon 73 = .ok (.getfield 45, 3) := by decide +kernel
theorem dX6_reckon_76 : decode cX6_reckon 76 = .ok (.bipush 26, 2) := by decide +kernel
theorem dX6_reckon_78 : decode cX6_reckon 78 = .ok (.iaload, 1) := by decide +kernel
theorem dX6_reckon_79 : decode cX6_reckon 79 = .ok (.aload_n 0, 1) := by decide +kernel
theorem dX6_reckon_80 : decode cX6_reckon 80 = .ok (.getfield 45, 3) := by decide +kernel
theorem dX6_reckon_83 : decode cX6_reckon 83 = .ok (.bipush 27, 2) := by decide +kernel
theorem dX6_reckon_85 : decode cX6_reckon 85 = .ok (.iaload, 1) := by decide +kernel
theorem dX6_reckon_86 : decode cX6_reckon 86 = .ok (.invokevirtual 264, 3) := by decide +kernel
theorem dX6_reckon_89 : decode cX6_reckon 89 = .ok (.iconst 0, 1) := by decide +kernel
theorem dX6_reckon_90 : decode cX6_reckon 90 = .ok (.istore_n 3, 1) := by decide +kernel
theorem dX6_reckon_91 : decode cX6_reckon 91 = .ok (.iload_n 3, 1) := by decide +kernel
theorem dX6_reckon_92 : decode cX6_reckon 92 = .ok (.aload_n 2, 1) := by decide +kernel
theorem dX6_reckon_93 : decode cX6_reckon 93 = .ok (.getfield 212, 3) := by decide +kernel
theorem dX6_reckon_96 : decode cX6_reckon 96 = .ok (.if_icmp .ge 21, 3) := by decide +kernel
theorem dX6_reckon_99 : decode cX6_reckon 99 = .ok (.aload_n 0, 1) := by decide +kernel
theorem dX6_reckon_100 : decode cX6_reckon 100 = .ok (.getfield 37, 3) := by decide +kernel
theorem dX6_reckon_103 : decode cX6_reckon 103 = .ok (.aload_n 2, 1) := by decide +kernel
theorem dX6_reckon_104 : decode cX6_reckon 104 = .ok (.iload_n 3, 1) := by decide +kernel
theorem dX6_reckon_105 : decode cX6_reckon 105 = .ok (.invokevirtual 227, 3) := by decide +kernel
theorem dX6_reckon_108 : decode cX6_reckon 108 = .ok (.invokevirtual 268, 3) := by decide +kernel
theorem dX6_reckon_111 : decode cX6_reckon 111 = .ok (.iinc 3 1, 3) := by decide +kernel
theorem dX6_reckon_114 : decode cX6_reckon 114 = .ok (.goto (-23), 3) := by decide +kernel
theorem dX6_reckon_117 : decode cX6_reckon 117 = .ok (.aload_n 0, 1) := by decide +kernel
theorem dX6_reckon_118 : decode cX6_reckon 118 = .ok (.getfield 41, 3) := by decide +kernel
theorem dX6_reckon_121 : decode cX6_reckon 121 = .ok (.bipush 26, 2) := by decide +kernel
theorem dX6_reckon_123 : decode cX6_reckon 123 = .ok (.aload_n 0, 1) := by decide +kernel
theorem dX6_reckon_124 : decode cX6_reckon 124 = .ok (.getfield 37, 3) := by decide +kernel
theorem dX6_reckon_127 : decode cX6_reckon 127 = .ok (.getfield 272, 3) := by decide +kernel
theorem dX6_reckon_130 : decode cX6_reckon 130 = .ok (.iastore, 1) := by decide +kernel
theorem dX6_reckon_131 : decode cX6_reckon 131 = .ok (.aload_n 0, 1) := by decide +kernel
theorem dX6_reckon_132 : decode cX6_reckon 132 = .ok (.getfield 41, 3) := by decide +kernel
theorem dX6_reckon_135 : decode cX6_reckon 135 = .ok (.bipush 27, 2) := by decide +kernel
theorem dX6_reckon_137 : decode cX6_reckon 137 = .ok (.aload_n 0, 1) := by decide +kernel
theorem dX6_reckon_138 : decode cX6_reckon 138 = .ok (.getfield 37, 3) := by decide +kernel
theorem dX6_reckon_141 : decode cX6_reckon 141 = .ok (.getfield 275, 3) := by decide +kernel
theorem dX6_reckon_144 : decode cX6_reckon 144 = .ok (.iastore, 1) := by decide +kernel
theorem dX6_reckon_145 : decode cX6_reckon 145 = .ok (.aload_n 0, 1) := by decide +kernel
theorem dX6_reckon_146 : decode cX6_reckon 146 = .ok (.getfield 41, 3) := by decide +kernel
theorem dX6_reckon_149 : decode cX6_reckon 149 = .ok (.bipush 28, 2) := by decide +kernel
theorem dX6_reckon_151 : decode cX6_reckon 151 = .ok (.aload_n 0, 1) := by decide +kernel
theorem dX6_reckon_152 : decode cX6_reckon 152 = .ok (.getfield 37, 3) := by decide +kernel
theorem dX6_reckon_155 : decode cX6_reckon 155 = .ok (.getfield 278, 3) := by decide +kernel
theorem dX6_reckon_158 : decode cX6_reckon 158 = .ok (.iastore, 1) := by decide +kernel
theorem dX6_reckon_159 : decode cX6_reckon 159 = .ok (.return_, 1) := by decide +kernel
def rm_X6_reckon : Room := { frames := 3, cells := 0, slots := 0, locals := 67 }
set_option maxRecDepth 100000 in
set_option maxHeartbeats 4000000 in
theorem ok_X6_reckon_91 {E : Ev} {X : Xt} {l0 : Launch} {K : Hp → Prop} (hC : Cx E X l0 RX6 cX6_reckon 4 rm_X6_reckon) (hQ : CQ E X "reckon" none rm_X6_reckon (KV K)) : ∀ (n : Nat) (a0 : Nat) (a2 : Nat) (a3 : Int32) (h : Hp), V_X6_reckon_91 K n a0 a2 a3 h → WW E X h 0 0 91 [some (rv a0), none, some (rv a2), some (.int a3)] [] := by
  intro n
  induction n with
  | zero => intro a0 a2 a3 h hV; exact hV.elim
  | succ n ih =>
    intro a0 a2 a3 h hV
    unfold V_X6_reckon_91 at hV
    refine r_iload_n hC dX6_reckon_91 rfl ?_
    refine r_aload_n hC dX6_reckon_92 rfl ?_
    obtain ⟨k9, hV⟩ := hV
    refine r_getI hC dX6_reckon_93 fl_6_212 rf_2_7 lq_2 k9 ?_
    refine r_icmp_ge (tgt := 117) hC dX6_reckon_96 (by decide) (fun k9 => ?_) (fun k9 => ?_)
    · replace hV := hV.1 k9
      refine r_aload_n hC dX6_reckon_117 rfl ?_
      obtain ⟨k9, hV⟩ := hV
      refine r_getR hC dX6_reckon_118 fl_6_41 rf_6_6 lq_6 k9 ?_
      refine r_bipush (v := 26) hC dX6_reckon_121 (by decide) ?_
      refine r_aload_n hC dX6_reckon_123 rfl ?_
      obtain ⟨k9, hV⟩ := hV
      refine r_getR hC dX6_reckon_124 fl_6_37 rf_6_5 lq_6 k9 ?_
      obtain ⟨k9, hV⟩ := hV
      refine r_getI hC dX6_reckon_127 fl_6_272 rf_4_5 lq_4 k9 ?_
      obtain ⟨k9, k8, hV⟩ := hV
      refine r_iast (kd := 37) hC dX6_reckon_130 (by decide) rfl k9 k8 (nmH (fun h1 k9 => ?_))
      replace hV := hV h1 k9
      refine r_aload_n hC dX6_reckon_131 rfl ?_
      obtain ⟨k9, hV⟩ := hV
      refine r_getR hC dX6_reckon_132 fl_6_41 rf_6_6 lq_6 k9 ?_
      refine r_bipush (v := 27) hC dX6_reckon_135 (by decide) ?_
      refine r_aload_n hC dX6_reckon_137 rfl ?_
      obtain ⟨k9, hV⟩ := hV
      refine r_getR hC dX6_reckon_138 fl_6_37 rf_6_5 lq_6 k9 ?_
      obtain ⟨k9, hV⟩ := hV
      refine r_getI hC dX6_reckon_141 fl_6_275 rf_4_6 lq_4 k9 ?_
      obtain ⟨k9, k8, hV⟩ := hV
      refine r_iast (kd := 37) hC dX6_reckon_144 (by decide) rfl k9 k8 (nmH (fun h2 k9 => ?_))
      replace hV := hV h2 k9
      refine r_aload_n hC dX6_reckon_145 rfl ?_
      obtain ⟨k9, hV⟩ := hV
      refine r_getR hC dX6_reckon_146 fl_6_41 rf_6_6 lq_6 k9 ?_
      refine r_bipush (v := 28) hC dX6_reckon_149 (by decide) ?_
      refine r_aload_n hC dX6_reckon_151 rfl ?_
      obtain ⟨k9, hV⟩ := hV
      refine r_getR hC dX6_reckon_152 fl_6_37 rf_6_5 lq_6 k9 ?_
      obtain ⟨k9, hV⟩ := hV
      refine r_getI hC dX6_reckon_155 fl_6_278 rf_4_7 lq_4 k9 ?_
      obtain ⟨k9, k8, hV⟩ := hV
      refine r_iast (kd := 37) hC dX6_reckon_158 (by decide) rfl k9 k8 (nmH (fun h3 k9 => ?_))
      replace hV := hV h3 k9
      exact r_vret hC hQ dX6_reckon_159 (Nat.le_of_ble_eq_true rfl) (Nat.le_of_ble_eq_true rfl) ⟨rfl, hV⟩
    · replace hV := hV.2 k9
      refine r_aload_n hC dX6_reckon_99 rfl ?_
      obtain ⟨k9, hV⟩ := hV
      refine r_getR hC dX6_reckon_100 fl_6_37 rf_6_5 lq_6 k9 ?_
      refine r_aload_n hC dX6_reckon_103 rfl ?_
      refine r_iload_n hC dX6_reckon_104 rfl ?_
      obtain ⟨k9, hV⟩ := hV
      refine r_callV (ci := 2) (As := [.int a3]) hC dX6_reckon_105 rfl cf_X2_gapWidth ml_6_227 im_X2_gapWidth sl_X2_gapWidth lq_2 rfl rfl k9 rfl ⟨(Nat.le_of_ble_eq_true rfl), (Nat.le_of_ble_eq_true rfl), (Nat.le_of_ble_eq_true rfl), (Nat.le_of_ble_eq_true rfl)⟩ (csR cs0) (Nat.le_of_ble_eq_true rfl) (con_X2_gapWidth a2 a3 h _ hV) rfl (kI (k := 0) (n := 0) (fun r1 h1 hV => ?_))
      obtain ⟨k9, hV⟩ := hV
      refine r_callV (ci := 4) (As := [.int r1]) hC dX6_reckon_108 rfl cf_X4_fill ml_6_268 im_X4_fill sl_X4_fill lq_4 rfl rfl k9 rfl ⟨(Nat.le_of_ble_eq_true rfl), (Nat.le_of_ble_eq_true rfl), (Nat.le_of_ble_eq_true rfl), (Nat.le_of_ble_eq_true rfl)⟩ cs0 (Nat.le_of_ble_eq_true rfl) (con_X4_fill (hR h a0 5) r1 h1 _ hV) rfl (kV (k := 0) (n := 0) (fun h2 hV => ?_))
      refine r_iinc (v := 1) (lo1 := [some (rv a0), none, some (rv a2), some (.int (a3 + 1))]) hC dX6_reckon_111 rfl (by decide) (pvR rfl) rfl ?_
      refine r_goto (tgt := 91) hC dX6_reckon_114 (by decide) ?_
      exact ih a0 a2 (a3 + 1) h2 hV
set_option maxRecDepth 100000 in
set_option maxHeartbeats 4000000 in
theorem ok_X6_reckon_44 {E : Ev} {X : Xt} {l0 : Launch} {K : Hp → Prop} (hC : Cx E X l0 RX6 cX6_reckon 4 rm_X6_reckon) (hQ : CQ E X "reckon" none rm_X6_reckon (KV K)) : ∀ (n : Nat) (a0 : Nat) (a2 : Nat) (a3 : Int32) (h : Hp), V_X6_reckon_44 K n a0 a2 a3 h → WW E X h 0 0 44 [some (rv a0), none, some (rv a2), some (.int a3)] [] := by
  intro n
  induction n with
  | zero => intro a0 a2 a3 h hV; exact hV.elim
  | succ n ih =>
    intro a0 a2 a3 h hV
    unfold V_X6_reckon_44 at hV
    refine r_iload_n hC dX6_reckon_44 rfl ?_
    refine r_bipush (v := 26) hC dX6_reckon_45 (by decide) ?_
    refine r_icmp_ge (tgt := 68) hC dX6_reckon_47 (by decide) (fun k9 => ?_) (fun k9 => ?_)
    · replace hV := hV.1 k9
      refine r_aload_n hC dX6_reckon_68 rfl ?_
      obtain ⟨k9, hV⟩ := hV
      refine r_getR hC dX6_reckon_69 fl_6_37 rf_6_5 lq_6 k9 ?_
      refine r_aload_n hC dX6_reckon_72 rfl ?_
      obtain ⟨k9, hV⟩ := hV
      refine r_getR hC dX6_reckon_73 fl_6_45 rf_6_7 lq_6 k9 ?_
      refine r_bipush (v := 26) hC dX6_reckon_76 (by decide) ?_
      obtain ⟨k9, k8, hV⟩ := hV
      refine r_iald (kd := 38) hC dX6_reckon_78 (by decide) rfl k9 k8 ?_
      refine r_aload_n hC dX6_reckon_79 rfl ?_
      obtain ⟨k9, hV⟩ := hV
      refine r_getR hC dX6_reckon_80 fl_6_45 rf_6_7 lq_6 k9 ?_
      refine r_bipush (v := 27) hC dX6_reckon_83 (by decide) ?_
      obtain ⟨k9, k8, hV⟩ := hV
      refine r_iald (kd := 38) hC dX6_reckon_85 (by decide) rfl k9 k8 ?_
      obtain ⟨k9, hV⟩ := hV
      refine r_callV (ci := 4) (As := [.int (hI h (hR h a0 7) (ix 26)), .int (hI h (hR h a0 7) (ix 27))]) hC dX6_reckon_86 rfl cf_X4_begin ml_6_264 im_X4_begin sl_X4_begin lq_4 rfl rfl k9 rfl ⟨(Nat.le_of_ble_eq_true rfl), (Nat.le_of_ble_eq_true rfl), (Nat.le_of_ble_eq_true rfl), (Nat.le_of_ble_eq_true rfl)⟩ cs0 (Nat.le_of_ble_eq_true rfl) (con_X4_begin (hR h a0 5) (hI h (hR h a0 7) (ix 26)) (hI h (hR h a0 7) (ix 27)) h _ hV) rfl (kV (k := 0) (n := 0) (fun h1 hV => ?_))
      refine r_iconst (v := 0) hC dX6_reckon_89 (by decide) ?_
      refine r_istore_n (ii := 3) (lo1 := [some (rv a0), none, some (rv a2), some (.int 0)]) hC dX6_reckon_90 rfl (Nat.le_of_ble_eq_true rfl) (pvR rfl) rfl ?_
      obtain ⟨n9, hV⟩ := hV
      exact ok_X6_reckon_91 hC hQ n9 a0 a2 0 h1 hV
    · replace hV := hV.2 k9
      refine r_aload_n hC dX6_reckon_50 rfl ?_
      obtain ⟨k9, hV⟩ := hV
      refine r_getR hC dX6_reckon_51 fl_6_41 rf_6_6 lq_6 k9 ?_
      refine r_iload_n hC dX6_reckon_54 rfl ?_
      refine r_aload_n hC dX6_reckon_55 rfl ?_
      obtain ⟨k9, hV⟩ := hV
      refine r_getR hC dX6_reckon_56 fl_6_261 rf_2_1 lq_2 k9 ?_
      refine r_iload_n hC dX6_reckon_59 rfl ?_
      obtain ⟨k9, k8, hV⟩ := hV
      refine r_iald (kd := 31) hC dX6_reckon_60 (by decide) rfl k9 k8 ?_
      obtain ⟨k9, k8, hV⟩ := hV
      refine r_iast (kd := 37) hC dX6_reckon_61 (by decide) rfl k9 k8 (nmH (fun h1 k9 => ?_))
      replace hV := hV h1 k9
      refine r_iinc (v := 1) (lo1 := [some (rv a0), none, some (rv a2), some (.int (a3 + 1))]) hC dX6_reckon_62 rfl (by decide) (pvR rfl) rfl ?_
      refine r_goto (tgt := 44) hC dX6_reckon_65 (by decide) ?_
      exact ih a0 a2 (a3 + 1) h1 hV
set_option maxRecDepth 100000 in
set_option maxHeartbeats 4000000 in
theorem ok_X6_reckon_10 {E : Ev} {X : Xt} {l0 : Launch} {K : Hp → Prop} (hC : Cx E X l0 RX6 cX6_reckon 4 rm_X6_reckon) (hQ : CQ E X "reckon" none rm_X6_reckon (KV K)) : ∀ (n : Nat) (a0 : Nat) (a1 : Nat) (a2 : Nat) (a3 : Int32) (h : Hp), V_X6_reckon_10 K n a0 a1 a2 a3 h → WW E X h 0 0 10 [some (rv a0), some (rv a1), some (rv a2), some (.int a3)] [] := by
  intro n
  induction n with
  | zero => intro a0 a1 a2 a3 h hV; exact hV.elim
  | succ n ih =>
    intro a0 a1 a2 a3 h hV
    unfold V_X6_reckon_10 at hV
    refine r_iload_n hC dX6_reckon_10 rfl ?_
    refine r_bipush (v := 29) hC dX6_reckon_11 (by decide) ?_
    refine r_icmp_ge (tgt := 42) hC dX6_reckon_13 (by decide) (fun k9 => ?_) (fun k9 => ?_)
    · replace hV := hV.1 k9
      refine r_iconst (v := 0) hC dX6_reckon_42 (by decide) ?_
      refine r_istore_n (ii := 3) (lo1 := [some (rv a0), some (rv a1), some (rv a2), some (.int 0)]) hC dX6_reckon_43 rfl (Nat.le_of_ble_eq_true rfl) (pvR rfl) rfl ?_
      refine r_sub (lo1 := [some (rv a0), none, some (rv a2), some (.int 0)]) ⟨Or.inr rfl, ⟨Or.inl rfl, ⟨Or.inr rfl, ⟨Or.inr rfl, trivial⟩⟩⟩⟩ ?_
      obtain ⟨n9, hV⟩ := hV
      exact ok_X6_reckon_44 hC hQ n9 a0 a2 0 h hV
    · replace hV := hV.2 k9
      refine r_aload_n hC dX6_reckon_16 rfl ?_
      obtain ⟨k9, hV⟩ := hV
      refine r_getR hC dX6_reckon_17 fl_6_45 rf_6_7 lq_6 k9 ?_
      refine r_iload_n hC dX6_reckon_20 rfl ?_
      refine r_aload_n hC dX6_reckon_21 rfl ?_
      obtain ⟨k9, hV⟩ := hV
      refine r_getR hC dX6_reckon_22 fl_6_19 rf_6_1 lq_6 k9 ?_
      refine r_iload_n hC dX6_reckon_25 rfl ?_
      obtain ⟨k9, hV⟩ := hV
      refine r_callV (ci := 5) (As := [.int a3]) hC dX6_reckon_26 rfl cf_X5_heldInAll ml_6_255 im_X5_heldInAll sl_X5_heldInAll lq_5 rfl rfl k9 rfl ⟨(Nat.le_of_ble_eq_true rfl), (Nat.le_of_ble_eq_true rfl), (Nat.le_of_ble_eq_true rfl), (Nat.le_of_ble_eq_true rfl)⟩ (csI (csR cs0)) (Nat.le_of_ble_eq_true rfl) (con_X5_heldInAll (hR h a0 1) a3 h _ hV) rfl (kI (k := 0) (n := 0) (fun r1 h1 hV => ?_))
      refine r_aload_n hC dX6_reckon_29 rfl ?_
      refine r_iload_n hC dX6_reckon_30 rfl ?_
      obtain ⟨k9, hV⟩ := hV
      refine r_callV (ci := 1) (As := [.int a3]) hC dX6_reckon_31 rfl cf_X1_takenInAll ml_6_258 im_X1_takenInAll sl_X1_takenInAll lq_1 rfl rfl k9 rfl ⟨(Nat.le_of_ble_eq_true rfl), (Nat.le_of_ble_eq_true rfl), (Nat.le_of_ble_eq_true rfl), (Nat.le_of_ble_eq_true rfl)⟩ (csI (csI (csR cs0))) (Nat.le_of_ble_eq_true rfl) (con_X1_takenInAll a1 a3 h1 _ hV) rfl (kI (k := 0) (n := 0) (fun r2 h2 hV => ?_))
      refine r_iadd hC dX6_reckon_34 ?_
      obtain ⟨k9, k8, hV⟩ := hV
      refine r_iast (kd := 38) hC dX6_reckon_35 (by decide) rfl k9 k8 (nmH (fun h3 k9 => ?_))
      replace hV := hV h3 k9
      refine r_iinc (v := 1) (lo1 := [some (rv a0), some (rv a1), some (rv a2), some (.int (a3 + 1))]) hC dX6_reckon_36 rfl (by decide) (pvR rfl) rfl ?_
      refine r_goto (tgt := 10) hC dX6_reckon_39 (by decide) ?_
      exact ih a0 a1 a2 (a3 + 1) h3 hV
set_option maxRecDepth 100000 in
set_option maxHeartbeats 4000000 in
theorem ok_X6_reckon_0 {E : Ev} {X : Xt} {l0 : Launch} {K : Hp → Prop} (hC : Cx E X l0 RX6 cX6_reckon 4 rm_X6_reckon) (hQ : CQ E X "reckon" none rm_X6_reckon (KV K)) (a0 : Nat) (a1 : Nat) (h : Hp) (hV : V_X6_reckon a0 a1 h K) : WW E X h 0 0 0 [some (rv a0), some (rv a1), none, none] [] := by
  unfold V_X6_reckon at hV
  refine r_aload_n hC dX6_reckon_0 rfl ?_
  obtain ⟨k9, hV⟩ := hV
  refine r_getR hC dX6_reckon_1 fl_6_152 rf_1_0 lq_1 k9 ?_
  obtain ⟨k9, hV⟩ := hV
  refine r_getR hC dX6_reckon_4 fl_6_202 rf_3_3 lq_3 k9 ?_
  refine r_astore_n (ii := 2) (lo1 := [some (rv a0), some (rv a1), some (rv (hR h (hR h a1 0) 3)), none]) hC dX6_reckon_7 rfl (Nat.le_of_ble_eq_true rfl) (pvR rfl) rfl ?_
  refine r_iconst (v := 0) hC dX6_reckon_8 (by decide) ?_
  refine r_istore_n (ii := 3) (lo1 := [some (rv a0), some (rv a1), some (rv (hR h (hR h a1 0) 3)), some (.int 0)]) hC dX6_reckon_9 rfl (Nat.le_of_ble_eq_true rfl) (pvR rfl) rfl ?_
  obtain ⟨n9, hV⟩ := hV
  exact ok_X6_reckon_10 hC hQ n9 a0 a1 (hR h (hR h a1 0) 3) 0 h hV
set_option maxRecDepth 100000 in
set_option maxHeartbeats 4000000 in
theorem con_X6_reckon {E : Ev} {l0 : Launch} (a0 : Nat) (a1 : Nat) (h : Hp) (K : Hp → Prop) (hV : V_X6_reckon a0 a1 h K) : Con E l0 yX6_reckon cX6_reckon 4 none rm_X6_reckon [rv a0, rv a1] h (KV K) := by
  refine Con.of (by decide +kernel) (cat_R (cat_R cat_nil)) (Nat.le_of_ble_eq_true rfl) (fun X hC hQ => ?_)
  refine r_sub (lo1 := [some (rv a0), some (rv a1), none, none]) (show lsub [some (rv a0), some (rv a1), none, none] _ from ⟨Or.inr rfl, ⟨Or.inr rfl, ⟨Or.inr rfl, ⟨Or.inr rfl, trivial⟩⟩⟩⟩) ?_
  exact ok_X6_reckon_0 hC hQ a0 a1 h hV
theorem dX6_missingOf_0 : decode cX6_missingOf 0 = .ok (.iconst 0, 1) := by decide +kernel
theorem dX6_missingOf_1 : decode cX6_missingOf 1 = .ok (.aload_n 0, 1) := by decide +kernel
theorem dX6_missingOf_2 : decode cX6_missingOf 2 = .ok (.getfield 41, 3) := by decide +kernel
theorem dX6_missingOf_5 : decode cX6_missingOf 5 = .ok (.iload_n 1, 1) := by decide +kernel
theorem dX6_missingOf_6 : decode cX6_missingOf 6 = .ok (.iaload, 1) := by decide +kernel
theorem dX6_missingOf_7 : decode cX6_missingOf 7 = .ok (.aload_n 0, 1) := by decide +kernel
theorem dX6_missingOf_8 : decode cX6_missingOf 8 = .ok (.getfield 45, 3) := by decide +kernel
theorem dX6_missingOf_11 : decode cX6_missingOf 11 = .ok (.iload_n 1, 1) := by decide +kernel
theorem dX6_missingOf_12 : decode cX6_missingOf 12 = .ok (.iaload, 1) := by decide +kernel
theorem dX6_missingOf_13 : decode cX6_missingOf 13 = .ok (.isub, 1) := by decide +kernel
theorem dX6_missingOf_14 : decode cX6_missingOf 14 = .ok (.invokestatic 281, 3) := by decide +kernel
theorem dX6_missingOf_17 : decode cX6_missingOf 17 = .ok (.ireturn, 1) := by decide +kernel
def rm_X6_missingOf : Room := { frames := 1, cells := 0, slots := 0, locals := 26 }
set_option maxRecDepth 100000 in
set_option maxHeartbeats 4000000 in
theorem ok_X6_missingOf_0 {E : Ev} {X : Xt} {l0 : Launch} {K : Int32 → Hp → Prop} (hC : Cx E X l0 RX6 cX6_missingOf 2 rm_X6_missingOf) (hQ : CQ E X "missingOf" (some .int) rm_X6_missingOf (KI K)) (a0 : Nat) (a1 : Int32) (h : Hp) (hV : V_X6_missingOf a0 a1 h K) : WW E X h 0 0 0 [some (rv a0), some (.int a1)] [] := by
  unfold V_X6_missingOf at hV
  refine r_iconst (v := 0) hC dX6_missingOf_0 (by decide) ?_
  refine r_aload_n hC dX6_missingOf_1 rfl ?_
  obtain ⟨k9, hV⟩ := hV
  refine r_getR hC dX6_missingOf_2 fl_6_41 rf_6_6 lq_6 k9 ?_
  refine r_iload_n hC dX6_missingOf_5 rfl ?_
  obtain ⟨k9, k8, hV⟩ := hV
  refine r_iald (kd := 37) hC dX6_missingOf_6 (by decide) rfl k9 k8 ?_
  refine r_aload_n hC dX6_missingOf_7 rfl ?_
  obtain ⟨k9, hV⟩ := hV
  refine r_getR hC dX6_missingOf_8 fl_6_45 rf_6_7 lq_6 k9 ?_
  refine r_iload_n hC dX6_missingOf_11 rfl ?_
  obtain ⟨k9, k8, hV⟩ := hV
  refine r_iald (kd := 38) hC dX6_missingOf_12 (by decide) rfl k9 k8 ?_
  refine r_isub hC dX6_missingOf_13 ?_
  refine r_max hC dX6_missingOf_14 rfl ml_6_281 mmax_s mth_i mmax_c cs0 ⟨Nat.le_of_ble_eq_true rfl, Nat.le_of_ble_eq_true rfl, Nat.le_of_ble_eq_true rfl, Nat.le_of_ble_eq_true rfl⟩ ?_
  exact r_iret hC hQ dX6_missingOf_17 (Nat.le_of_ble_eq_true rfl) (Nat.le_of_ble_eq_true rfl) ⟨_, rfl, hV⟩
set_option maxRecDepth 100000 in
set_option maxHeartbeats 4000000 in
theorem con_X6_missingOf {E : Ev} {l0 : Launch} (a0 : Nat) (a1 : Int32) (h : Hp) (K : Int32 → Hp → Prop) (hV : V_X6_missingOf a0 a1 h K) : Con E l0 yX6_missingOf cX6_missingOf 2 (some .int) rm_X6_missingOf [rv a0, .int a1] h (KI K) := by
  refine Con.of (by decide +kernel) (cat_R (cat_I cat_nil)) (Nat.le_of_ble_eq_true rfl) (fun X hC hQ => ?_)
  refine r_sub (lo1 := [some (rv a0), some (.int a1)]) (show lsub [some (rv a0), some (.int a1)] _ from ⟨Or.inr rfl, ⟨Or.inr rfl, trivial⟩⟩) ?_
  exact ok_X6_missingOf_0 hC hQ a0 a1 h hV
theorem dX6_castMissing_0 : decode cX6_castMissing 0 = .ok (.aload_n 0, 1) := by decide +kernel
theorem dX6_castMissing_1 : decode cX6_castMissing 1 = .ok (.getfield 19, 3) := by decide +kernel
theorem dX6_castMissing_4 : decode cX6_castMissing 4 = .ok (.iload_n 1, 1) := by decide +kernel
theorem dX6_castMissing_5 : decode cX6_castMissing 5 = .ok (.invokevirtual 138, 3) := by decide +kernel
theorem dX6_castMissing_8 : decode cX6_castMissing 8 = .ok (.astore_n 2, 1) := by decide +kernel
theorem dX6_castMissing_9 : decode cX6_castMissing 9 = .ok (.aload_n 2, 1) := by decide +kernel
theorem dX6_castMissing_10 : decode cX6_castMissing 10 = .ok (.ifnonnull 5, 3) := by decide +kernel
theorem dX6_castMissing_13 : decode cX6_castMissing 13 = .ok (.iconst (-1), 1) := by decide +kernel
theorem dX6_castMissing_14 : decode cX6_castMissing 14 = .ok (.ireturn, 1) := by decide +kernel
theorem dX6_castMissing_15 : decode cX6_castMissing 15 = .ok (.aload_n 2, 1) := by decide +kernel
theorem dX6_castMissing_16 : decode cX6_castMissing 16 = .ok (.getfield 142, 3) := by decide +kernel
theorem dX6_castMissing_19 : decode cX6_castMissing 19 = .ok (.ifCond .eq 6, 3) := by decide +kernel
theorem dX6_castMissing_22 : decode cX6_castMissing 22 = .ok (.bipush (-4), 2) := by decide +kernel
theorem dX6_castMissing_24 : decode cX6_castMissing 24 = .ok (.ireturn, 1) := by decide +kernel
theorem dX6_castMissing_25 : decode cX6_castMissing 25 = .ok (.aload_n 0, 1) := by decide +kernel
theorem dX6_castMissing_26 : decode cX6_castMissing 26 = .ok (.aload_n 2, 1) := by decide +kernel
theorem dX6_castMissing_27 : decode cX6_castMissing 27 = .ok (.invokevirtual 145, 3) := by decide +kernel
theorem dX6_castMissing_30 : decode cX6_castMissing 30 = .ok (.iconst 0, 1) := by decide +kernel
theorem dX6_castMissing_31 : decode cX6_castMissing 31 = .ok (.istore_n 3, 1) := by decide +kernel
theorem dX6_castMissing_32 : decode cX6_castMissing 32 = .ok (.iconst 0, 1) := by decide +kernel
theorem dX6_castMissing_33 : decode cX6_castMissing 33 = .ok (.istore 4, 2) := by decide +kernel
theorem dX6_castMissing_35 : decode cX6_castMissing 35 = .ok (.iload 4, 2) := by decide +kernel
theorem dX6_castMissing_37 : decode cX6_castMissing 37 = .ok (.bipush 29, 2) := by decide +kernel
theorem dX6_castMissing_39 : decode cX6_castMissing 39 = .ok (.if_icmp .ge 32, 3) := by decide +kernel
theorem dX6_castMissing_42 : decode cX6_castMissing 42 = .ok (.aload_n 0, 1) := by decide +kernel
theorem dX6_castMissing_43 : decode cX6_castMissing 43 = .ok (.getfield 48, 3) := by decide +kernel
theorem dX6_castMissing_46 : decode cX6_castMissing 46 = .ok (.iload 4, 2) := by decide +kernel
theorem dX6_castMissing_48 : decode cX6_castMissing 48 = .ok (.aload_n 0, 1) := by decide +kernel
theorem dX6_castMissing_49 : decode cX6_castMissing 49 = .ok (.iload 4, 2) := by decide +kernel
theorem dX6_castMissing_51 : decode cX6_castMissing 51 = .ok (.invokevirtual 149, 3) := by decide +kernel
theorem dX6_castMissing_54 : decode cX6_castMissing 54 = .ok (.iastore, 1) := by decide +kernel
theorem dX6_castMissing_55 : decode cX6_castMissing 55 = .ok (.iload_n 3, 1) := by decide +kernel
theorem dX6_castMissing_56 : decode cX6_castMissing 56 = .ok (.aload_n 0, 1) := by decide +kernel
theorem dX6_castMissing_57 : decode cX6_castMissing 57 = .ok (.getfield 48, 3) := by decide +kernel
theorem dX6_castMissing_60 : decode cX6_castMissing 60 = .ok (.iload 4, 2) := by decide +kernel
theorem dX6_castMissing_62 : decode cX6_castMissing 62 = .ok (.iaload, 1) := by decide +kernel
theorem dX6_castMissing_63 : decode cX6_castMissing 63 = .ok (.iadd, 1) := by decide +kernel
theorem dX6_castMissing_64 : decode cX6_castMissing 64 = .ok (.istore_n 3, 1) := by decide +kernel
theorem dX6_castMissing_65 : decode cX6_castMissing 65 = .ok (.iinc 4 1, 3) := by decide +kernel
theorem dX6_castMissing_68 : decode cX6_castMissing 68 = .ok (.goto (-33), 3) := by decide +kernel
theorem dX6_castMissing_71 : decode cX6_castMissing 71 = .ok (.iload_n 3, 1) := by decide +kernel
theorem dX6_castMissing_72 : decode cX6_castMissing 72 = .ok (.ifCond .ne 8, 3) := by decide +kernel
theorem dX6_castMissing_75 : decode cX6_castMissing 75 = .ok (.bipush (-5), 2) := by decide +kernel
theorem dX6_castMissing_77 : decode cX6_castMissing 77 = .ok (.goto 14, 3) := by decide +kernel
theorem dX6_castMissing_80 : decode cX6_castMissing 80 = .ok (.aload_n 0, 1) := by decide +kernel
theorem dX6_castMissing_81 : decode cX6_castMissing 81 = .ok (.aload_n 2, 1) := by decide +kernel
theorem dX6_castMissing_82 : decode cX6_castMissing 82 = .ok (.getfield 152, 3) := by decide +kernel
theorem dX6_castMissing_85 : decode cX6_castMissing 85 = .ok (.getfield 156, 3) := by decide +kernel
theorem dX6_castMissing_88 : decode cX6_castMissing 88 = .ok (.invokevirtual 71, 3) := by decide +kernel
theorem dX6_castMissing_91 : decode cX6_castMissing 91 = .ok (.ireturn, 1) := by decide +kernel
def rm_X6_castMissing : Room := { frames := 4, cells := 4, slots := 226, locals := 92 }
set_option maxRecDepth 100000 in
set_option maxHeartbeats 4000000 in
theorem ok_X6_castMissing_91 {E : Ev} {X : Xt} {l0 : Launch} {K : Int32 → Hp → Prop} (hC : Cx E X l0 RX6 cX6_castMissing 5 rm_X6_castMissing) (hQ : CQ E X "castMissing" (some .int) rm_X6_castMissing (KI K)) (s0 : Int32) (h : Hp) (hV : V_X6_castMissing_91 K s0 h) : WW E X h 4 226 91 [none, none, none, none, none] [.int s0] := by
  unfold V_X6_castMissing_91 at hV
  exact r_iret hC hQ dX6_castMissing_91 (Nat.le_of_ble_eq_true rfl) (Nat.le_of_ble_eq_true rfl) ⟨_, rfl, hV⟩
set_option maxRecDepth 100000 in
set_option maxHeartbeats 4000000 in
theorem ok_X6_castMissing_35 {E : Ev} {X : Xt} {l0 : Launch} {K : Int32 → Hp → Prop} (hC : Cx E X l0 RX6 cX6_castMissing 5 rm_X6_castMissing) (hQ : CQ E X "castMissing" (some .int) rm_X6_castMissing (KI K)) : ∀ (n : Nat) (a0 : Nat) (a2 : Nat) (a3 : Int32) (a4 : Int32) (h : Hp), V_X6_castMissing_35 K n a0 a2 a3 a4 h → WW E X h 0 0 35 [some (rv a0), none, some (rv a2), some (.int a3), some (.int a4)] [] := by
  intro n
  induction n with
  | zero => intro a0 a2 a3 a4 h hV; exact hV.elim
  | succ n ih =>
    intro a0 a2 a3 a4 h hV
    unfold V_X6_castMissing_35 at hV
    refine r_iload hC dX6_castMissing_35 rfl ?_
    refine r_bipush (v := 29) hC dX6_castMissing_37 (by decide) ?_
    refine r_icmp_ge (tgt := 71) hC dX6_castMissing_39 (by decide) (fun k9 => ?_) (fun k9 => ?_)
    · replace hV := hV.1 k9
      refine r_iload_n hC dX6_castMissing_71 rfl ?_
      refine r_if_ne (tgt := 80) hC dX6_castMissing_72 (by decide) (fun k9 => ?_) (fun k9 => ?_)
      · replace hV := hV.1 k9
        refine r_aload_n hC dX6_castMissing_80 rfl ?_
        refine r_aload_n hC dX6_castMissing_81 rfl ?_
        obtain ⟨k9, hV⟩ := hV
        refine r_getR hC dX6_castMissing_82 fl_6_152 rf_1_0 lq_1 k9 ?_
        obtain ⟨k9, hV⟩ := hV
        refine r_getI hC dX6_castMissing_85 fl_6_156 rf_3_0 lq_3 k9 ?_
        obtain ⟨k9, hV⟩ := hV
        refine r_callV (ci := 6) (As := [.int (hI h (hR h a2 0) 0)]) hC dX6_castMissing_88 rfl cf_X6_castWanted ml_6_71 im_X6_castWanted sl_X6_castWanted lq_6 rfl rfl k9 rfl ⟨(Nat.le_of_ble_eq_true rfl), (Nat.le_of_ble_eq_true rfl), (Nat.le_of_ble_eq_true rfl), (Nat.le_of_ble_eq_true rfl)⟩ cs0 (Nat.le_of_ble_eq_true rfl) (con_X6_castWanted a0 (hI h (hR h a2 0) 0) h _ hV) rfl (kI (k := 4) (n := 226) (fun r1 h1 hV => ?_))
        refine r_sub (lo1 := [none, none, none, none, none]) ⟨Or.inl rfl, ⟨Or.inl rfl, ⟨Or.inl rfl, ⟨Or.inl rfl, ⟨Or.inl rfl, trivial⟩⟩⟩⟩⟩ ?_
        exact ok_X6_castMissing_91 hC hQ r1 h1 hV
      · replace hV := hV.2 k9
        refine r_bipush (v := (-5)) hC dX6_castMissing_75 (by decide) ?_
        refine r_goto (tgt := 91) hC dX6_castMissing_77 (by decide) ?_
        refine r_wide (k1 := 4) (n1 := 226) (Nat.le_of_ble_eq_true rfl) (Nat.le_of_ble_eq_true rfl) ?_
        refine r_sub (lo1 := [none, none, none, none, none]) ⟨Or.inl rfl, ⟨Or.inl rfl, ⟨Or.inl rfl, ⟨Or.inl rfl, ⟨Or.inl rfl, trivial⟩⟩⟩⟩⟩ ?_
        exact ok_X6_castMissing_91 hC hQ (-5) h hV
    · replace hV := hV.2 k9
      refine r_aload_n hC dX6_castMissing_42 rfl ?_
      obtain ⟨k9, hV⟩ := hV
      refine r_getR hC dX6_castMissing_43 fl_6_48 rf_6_8 lq_6 k9 ?_
      refine r_iload hC dX6_castMissing_46 rfl ?_
      refine r_aload_n hC dX6_castMissing_48 rfl ?_
      refine r_iload hC dX6_castMissing_49 rfl ?_
      obtain ⟨k9, hV⟩ := hV
      refine r_callV (ci := 6) (As := [.int a4]) hC dX6_castMissing_51 rfl cf_X6_missingOf ml_6_149 im_X6_missingOf sl_X6_missingOf lq_6 rfl rfl k9 rfl ⟨(Nat.le_of_ble_eq_true rfl), (Nat.le_of_ble_eq_true rfl), (Nat.le_of_ble_eq_true rfl), (Nat.le_of_ble_eq_true rfl)⟩ (csI (csR cs0)) (Nat.le_of_ble_eq_true rfl) (con_X6_missingOf a0 a4 h _ hV) rfl (kI (k := 0) (n := 0) (fun r1 h1 hV => ?_))
      obtain ⟨k9, k8, hV⟩ := hV
      refine r_iast (kd := 39) hC dX6_castMissing_54 (by decide) rfl k9 k8 (nmH (fun h2 k9 => ?_))
      replace hV := hV h2 k9
      refine r_iload_n hC dX6_castMissing_55 rfl ?_
      refine r_aload_n hC dX6_castMissing_56 rfl ?_
      obtain ⟨k9, hV⟩ := hV
      refine r_getR hC dX6_castMissing_57 fl_6_48 rf_6_8 lq_6 k9 ?_
      refine r_iload hC dX6_castMissing_60 rfl ?_
      obtain ⟨k9, k8, hV⟩ := hV
      refine r_iald (kd := 39) hC dX6_castMissing_62 (by decide) rfl k9 k8 ?_
      refine r_iadd hC dX6_castMissing_63 ?_
      refine r_istore_n (ii := 3) (lo1 := [some (rv a0), none, some (rv a2), some (.int (a3 + (hI h2 (hR h2 a0 8) (ix a4)))), some (.int a4)]) hC dX6_castMissing_64 rfl (Nat.le_of_ble_eq_true rfl) (pvR rfl) rfl ?_
      refine r_iinc (v := 1) (lo1 := [some (rv a0), none, some (rv a2), some (.int (a3 + (hI h2 (hR h2 a0 8) (ix a4)))), some (.int (a4 + 1))]) hC dX6_castMissing_65 rfl (by decide) (pvI rfl) rfl ?_
      refine r_goto (tgt := 35) hC dX6_castMissing_68 (by decide) ?_
      exact ih a0 a2 (a3 + (hI h2 (hR h2 a0 8) (ix a4))) (a4 + 1) h2 hV
set_option maxRecDepth 100000 in
set_option maxHeartbeats 4000000 in
theorem ok_X6_castMissing_0 {E : Ev} {X : Xt} {l0 : Launch} {K : Int32 → Hp → Prop} (hC : Cx E X l0 RX6 cX6_castMissing 5 rm_X6_castMissing) (hQ : CQ E X "castMissing" (some .int) rm_X6_castMissing (KI K)) (a0 : Nat) (a1 : Int32) (h : Hp) (hV : V_X6_castMissing a0 a1 h K) : WW E X h 0 0 0 [some (rv a0), some (.int a1), none, none, none] [] := by
  unfold V_X6_castMissing at hV
  refine r_aload_n hC dX6_castMissing_0 rfl ?_
  obtain ⟨k9, hV⟩ := hV
  refine r_getR hC dX6_castMissing_1 fl_6_19 rf_6_1 lq_6 k9 ?_
  refine r_iload_n hC dX6_castMissing_4 rfl ?_
  obtain ⟨k9, hV⟩ := hV
  refine r_callV (ci := 5) (As := [.int a1]) hC dX6_castMissing_5 rfl cf_X5_findJob ml_6_138 im_X5_findJob sl_X5_findJob lq_5 rfl rfl k9 rfl ⟨(Nat.le_of_ble_eq_true rfl), (Nat.le_of_ble_eq_true rfl), (Nat.le_of_ble_eq_true rfl), (Nat.le_of_ble_eq_true rfl)⟩ cs0 (Nat.le_of_ble_eq_true rfl) (con_X5_findJob (hR h a0 1) a1 h _ hV) rfl (kR (k := 0) (n := 0) (fun r1 h1 hV => ?_))
  refine r_astore_n (ii := 2) (lo1 := [some (rv a0), some (.int a1), some (rv r1), none, none]) hC dX6_castMissing_8 rfl (Nat.le_of_ble_eq_true rfl) (pvI rfl) rfl ?_
  refine r_aload_n hC dX6_castMissing_9 rfl ?_
  refine r_ifnonnull (tgt := 15) hC dX6_castMissing_10 (by decide) (fun k9 => ?_) (fun k9 => ?_)
  · replace hV := hV.1 k9
    refine r_aload_n hC dX6_castMissing_15 rfl ?_
    obtain ⟨k9, hV⟩ := hV
    refine r_getI hC dX6_castMissing_16 fl_6_142 rf_1_1 lq_1 k9 ?_
    refine r_if_eq (tgt := 25) hC dX6_castMissing_19 (by decide) (fun k9 => ?_) (fun k9 => ?_)
    · replace hV := hV.1 k9
      refine r_aload_n hC dX6_castMissing_25 rfl ?_
      refine r_aload_n hC dX6_castMissing_26 rfl ?_
      obtain ⟨k9, hV⟩ := hV
      refine r_callV (ci := 6) (As := [rv r1]) hC dX6_castMissing_27 rfl cf_X6_reckon ml_6_145 im_X6_reckon sl_X6_reckon lq_6 rfl rfl k9 rfl ⟨(Nat.le_of_ble_eq_true rfl), (Nat.le_of_ble_eq_true rfl), (Nat.le_of_ble_eq_true rfl), (Nat.le_of_ble_eq_true rfl)⟩ cs0 (Nat.le_of_ble_eq_true rfl) (con_X6_reckon a0 r1 h1 _ hV) rfl (kV (k := 0) (n := 0) (fun h2 hV => ?_))
      refine r_iconst (v := 0) hC dX6_castMissing_30 (by decide) ?_
      refine r_istore_n (ii := 3) (lo1 := [some (rv a0), some (.int a1), some (rv r1), some (.int 0), none]) hC dX6_castMissing_31 rfl (Nat.le_of_ble_eq_true rfl) (pvR rfl) rfl ?_
      refine r_iconst (v := 0) hC dX6_castMissing_32 (by decide) ?_
      refine r_istore (lo1 := [some (rv a0), some (.int a1), some (rv r1), some (.int 0), some (.int 0)]) hC dX6_castMissing_33 (Nat.le_of_ble_eq_true rfl) (pvI rfl) rfl ?_
      refine r_sub (lo1 := [some (rv a0), none, some (rv r1), some (.int 0), some (.int 0)]) ⟨Or.inr rfl, ⟨Or.inl rfl, ⟨Or.inr rfl, ⟨Or.inr rfl, ⟨Or.inr rfl, trivial⟩⟩⟩⟩⟩ ?_
      obtain ⟨n9, hV⟩ := hV
      exact ok_X6_castMissing_35 hC hQ n9 a0 r1 0 0 h2 hV
    · replace hV := hV.2 k9
      refine r_bipush (v := (-4)) hC dX6_castMissing_22 (by decide) ?_
      exact r_iret hC hQ dX6_castMissing_24 (Nat.le_of_ble_eq_true rfl) (Nat.le_of_ble_eq_true rfl) ⟨_, rfl, hV⟩
  · replace hV := hV.2 k9
    refine r_iconst (v := (-1)) hC dX6_castMissing_13 (by decide) ?_
    exact r_iret hC hQ dX6_castMissing_14 (Nat.le_of_ble_eq_true rfl) (Nat.le_of_ble_eq_true rfl) ⟨_, rfl, hV⟩
set_option maxRecDepth 100000 in
set_option maxHeartbeats 4000000 in
theorem con_X6_castMissing {E : Ev} {l0 : Launch} (a0 : Nat) (a1 : Int32) (h : Hp) (K : Int32 → Hp → Prop) (hV : V_X6_castMissing a0 a1 h K) : Con E l0 yX6_castMissing cX6_castMissing 5 (some .int) rm_X6_castMissing [rv a0, .int a1] h (KI K) := by
  refine Con.of (by decide +kernel) (cat_R (cat_I cat_nil)) (Nat.le_of_ble_eq_true rfl) (fun X hC hQ => ?_)
  refine r_sub (lo1 := [some (rv a0), some (.int a1), none, none, none]) (show lsub [some (rv a0), some (.int a1), none, none, none] _ from ⟨Or.inr rfl, ⟨Or.inr rfl, ⟨Or.inr rfl, ⟨Or.inr rfl, ⟨Or.inr rfl, trivial⟩⟩⟩⟩⟩) ?_
  exact ok_X6_castMissing_0 hC hQ a0 a1 h hV
theorem dX6_clearText_0 : decode cX6_clearText 0 = .ok (.aload_n 0, 1) := by decide +kernel
theorem dX6_clearText_1 : decode cX6_clearText 1 = .ok (.getfield 10, 3) := by decide +kernel
theorem dX6_clearText_4 : decode cX6_clearText 4 = .ok (.getfield 106, 3) := by decide +kernel
theorem dX6_clearText_7 : decode cX6_clearText 7 = .ok (.istore_n 1, 1) := by decide +kernel
theorem dX6_clearText_8 : decode cX6_clearText 8 = .ok (.aload_n 0, 1) := by decide +kernel
theorem dX6_clearText_9 : decode cX6_clearText 9 = .ok (.getfield 10, 3) := by decide +kernel
theorem dX6_clearText_12 : decode cX6_clearText 12 = .ok (.iconst 0, 1) := by decide +kernel
theorem dX6_clearText_13 : decode cX6_clearText 13 = .ok (.putfield 106, 3) := by decide +kernel
theorem dX6_clearText_16 : decode cX6_clearText 16 = .ok (.iload_n 1, 1) := by decide +kernel
theorem dX6_clearText_17 : decode cX6_clearText 17 = .ok (.ireturn, 1) := by decide +kernel
def rm_X6_clearText : Room := { frames := 0, cells := 0, slots := 0, locals := 0 }
set_option maxRecDepth 100000 in
set_option maxHeartbeats 4000000 in
theorem ok_X6_clearText_0 {E : Ev} {X : Xt} {l0 : Launch} {K : Int32 → Hp → Prop} (hC : Cx E X l0 RX6 cX6_clearText 2 rm_X6_clearText) (hQ : CQ E X "clearText" (some .int) rm_X6_clearText (KI K)) (a0 : Nat) (h : Hp) (hV : V_X6_clearText a0 h K) : WW E X h 0 0 0 [some (rv a0), none] [] := by
  unfold V_X6_clearText at hV
  refine r_aload_n hC dX6_clearText_0 rfl ?_
  obtain ⟨k9, hV⟩ := hV
  refine r_getR hC dX6_clearText_1 fl_6_10 rf_6_0 lq_6 k9 ?_
  obtain ⟨k9, hV⟩ := hV
  refine r_getI hC dX6_clearText_4 fl_6_106 rf_0_1 lq_0 k9 ?_
  refine r_istore_n (ii := 1) (lo1 := [some (rv a0), some (.int (hI h (hR h a0 0) 1))]) hC dX6_clearText_7 rfl (Nat.le_of_ble_eq_true rfl) (pvR rfl) rfl ?_
  refine r_aload_n hC dX6_clearText_8 rfl ?_
  obtain ⟨k9, hV⟩ := hV
  refine r_getR hC dX6_clearText_9 fl_6_10 rf_6_0 lq_6 k9 ?_
  refine r_iconst (v := 0) hC dX6_clearText_12 (by decide) ?_
  obtain ⟨k9, hV⟩ := hV
  refine r_putI hC dX6_clearText_13 fl_6_106 ft_0 rfl rf_0_1 ty_0_1 lq_0 k9 (nmH (fun h1 k9 => ?_))
  replace hV := hV h1 k9
  refine r_iload_n hC dX6_clearText_16 rfl ?_
  exact r_iret hC hQ dX6_clearText_17 (Nat.le_of_ble_eq_true rfl) (Nat.le_of_ble_eq_true rfl) ⟨_, rfl, hV⟩
set_option maxRecDepth 100000 in
set_option maxHeartbeats 4000000 in
theorem con_X6_clearText {E : Ev} {l0 : Launch} (a0 : Nat) (h : Hp) (K : Int32 → Hp → Prop) (hV : V_X6_clearText a0 h K) : Con E l0 yX6_clearText cX6_clearText 2 (some .int) rm_X6_clearText [rv a0] h (KI K) := by
  refine Con.of (by decide +kernel) (cat_R cat_nil) (Nat.le_of_ble_eq_true rfl) (fun X hC hQ => ?_)
  refine r_sub (lo1 := [some (rv a0), none]) (show lsub [some (rv a0), none] _ from ⟨Or.inr rfl, ⟨Or.inr rfl, trivial⟩⟩) ?_
  exact ok_X6_clearText_0 hC hQ a0 h hV
theorem dX6_count_0 : decode cX6_count 0 = .ok (.iload_n 1, 1) := by decide +kernel
theorem dX6_count_1 : decode cX6_count 1 = .ok (.tableswitch 204 0 15 #[79, 87, 95, 103, 111, 119, 127, 135, 143, 151, 159, 167, 175, 183, 191, 196], 79) := by decide +kernel
theorem dX6_count_80 : decode cX6_count 80 = .ok (.aload_n 0, 1) := by decide +kernel
theorem dX6_count_81 : decode cX6_count 81 = .ok (.getfield 19, 3) := by decide +kernel
theorem dX6_count_84 : decode cX6_count 84 = .ok (.getfield 61, 3) := by decide +kernel
theorem dX6_count_87 : decode cX6_count 87 = .ok (.ireturn, 1) := by decide +kernel
theorem dX6_count_88 : decode cX6_count 88 = .ok (.aload_n 0, 1) := by decide +kernel
theorem dX6_count_89 : decode cX6_count 89 = .ok (.getfield 19, 3) := by decide +kernel
theorem dX6_count_92 : decode cX6_count 92 = .ok (.getfield 121, 3) := by decide +kernel
theorem dX6_count_95 : decode cX6_count 95 = .ok (.ireturn, 1) := by decide +kernel
theorem dX6_count_96 : decode cX6_count 96 = .ok (.aload_n 0, 1) := by decide +kernel
theorem dX6_count_97 : decode cX6_count 97 = .ok (.getfield 19, 3) := by decide +kernel
theorem dX6_count_100 : decode cX6_count 100 = .ok (.getfield 51, 3) := by decide +kernel
theorem dX6_count_103 : decode cX6_count 103 = .ok (.ireturn, 1) := by decide +kernel
theorem dX6_count_104 : decode cX6_count 104 = .ok (.aload_n 0, 1) := by decide +kernel
theorem dX6_count_105 : decode cX6_count 105 = .ok (.getfield 19, 3) := by decide +kernel
theorem dX6_count_108 : decode cX6_count 108 = .ok (.invokevirtual 237, 3) := by decide +kernel
theorem dX6_count_111 : decode cX6_count 111 = .ok (.ireturn, 1) := by decide +kernel
theorem dX6_count_112 : decode cX6_count 112 = .ok (.aload_n 0, 1) := by decide +kernel
theorem dX6_count_113 : decode cX6_count 113 = .ok (.getfield 19, 3) := by decide +kernel
theorem dX6_count_116 : decode cX6_count 116 = .ok (.invokevirtual 240, 3) := by decide +kernel
theorem dX6_count_119 : decode cX6_count 119 = .ok (.ireturn, 1) := by decide +kernel
theorem dX6_count_120 : decode cX6_count 120 = .ok (.aload_n 0, 1) := by decide +kernel
theorem dX6_count_121 : decode cX6_count 121 = .ok (.getfield 19, 3) := by decide +kernel
theorem dX6_count_124 : decode cX6_count 124 = .ok (.invokevirtual 93, 3) := by decide +kernel
theorem dX6_count_127 : decode cX6_count 127 = .ok (.ireturn, 1) := by decide +kernel
theorem dX6_count_128 : decode cX6_count 128 = .ok (.aload_n 0, 1) := by decide +kernel
theorem dX6_count_129 : decode cX6_count 129 = .ok (.getfield 19, 3) := by decide +kernel
theorem dX6_count_132 : decode cX6_count 132 = .ok (.getfield 58, 3) := by decide +kernel
theorem dX6_count_135 : decode cX6_count 135 = .ok (.ireturn, 1) := by decide +kernel
theorem dX6_count_136 : decode cX6_count 136 = .ok (.aload_n 0, 1) := by decide +kernel
theorem dX6_count_137 : decode cX6_count 137 = .ok (.getfield 19, 3) := by decide +kernel
theorem dX6_count_140 : decode cX6_count 140 = .ok (.getfield 99, 3) := by decide +kernel
theorem dX6_count_143 : decode cX6_count 143 = .ok (.ireturn, 1) := by decide +kernel
theorem dX6_count_144 : decode cX6_count 144 = .ok (.aload_n 0, 1) := by decide +kernel
theorem dX6_count_145 : decode cX6_count 145 = .ok (.getfield 19, 3) := by decide +kernel
theorem dX6_count_148 : decode cX6_count 148 = .ok (.getfield 243, 3) := by decide +kernel
theorem dX6_count_151 : decode cX6_count 151 = .ok (.ireturn, 1) := by decide +kernel
theorem dX6_count_152 : decode cX6_count 152 = .ok (.aload_n 0, 1) := by decide +kernel
theorem dX6_count_153 : decode cX6_count 153 = .ok (.getfield 19, 3) := by decide +kernel
theorem dX6_count_156 : decode cX6_count 156 = .ok (.getfield 86, 3) := by decide +kernel
theorem dX6_count_159 : decode cX6_count 159 = .ok (.ireturn, 1) := by decide +kernel
theorem dX6_count_160 : decode cX6_count 160 = .ok (.aload_n 0, 1) := by decide +kernel
theorem dX6_count_161 : decode cX6_count 161 = .ok (.getfield 19, 3) := by decide +kernel
theorem dX6_count_164 : decode cX6_count 164 = .ok (.invokevirtual 89, 3) := by decide +kernel
theorem dX6_count_167 : decode cX6_count 167 = .ok (.ireturn, 1) := by decide +kernel
theorem dX6_count_168 : decode cX6_count 168 = .ok (.aload_n 0, 1) := by decide +kernel
theorem dX6_count_169 : decode cX6_count 169 = .ok (.getfield 19, 3) := by decide +kernel
theorem dX6_count_172 : decode cX6_count 172 = .ok (.getfield 166, 3) := by decide +kernel
theorem dX6_count_175 : decode cX6_count 175 = .ok (.ireturn, 1) := by decide +kernel
theorem dX6_count_176 : decode cX6_count 176 = .ok (.aload_n 0, 1) := by decide +kernel
theorem dX6_count_177 : decode cX6_count 177 = .ok (.getfield 19, 3) := by decide +kernel
theorem dX6_count_180 : decode cX6_count 180 = .ok (.invokevirtual 246, 3) := by decide +kernel
theorem dX6_count_183 : decode cX6_count 183 = .ok (.ireturn, 1) := by decide +kernel
theorem dX6_count_184 : decode cX6_count 184 = .ok (.aload_n 0, 1) := by decide +kernel
theorem dX6_count_185 : decode cX6_count 185 = .ok (.getfield 19, 3) := by decide +kernel
theorem dX6_count_188 : decode cX6_count 188 = .ok (.invokevirtual 249, 3) := by decide +kernel
theorem dX6_count_191 : decode cX6_count 191 = .ok (.ireturn, 1) := by decide +kernel
theorem dX6_count_192 : decode cX6_count 192 = .ok (.aload_n 0, 1) := by decide +kernel
theorem dX6_count_193 : decode cX6_count 193 = .ok (.getfield 27, 3) := by decide +kernel
theorem dX6_count_196 : decode cX6_count 196 = .ok (.ireturn, 1) := by decide +kernel
theorem dX6_count_197 : decode cX6_count 197 = .ok (.aload_n 0, 1) := by decide +kernel
theorem dX6_count_198 : decode cX6_count 198 = .ok (.getfield 10, 3) := by decide +kernel
theorem dX6_count_201 : decode cX6_count 201 = .ok (.getfield 106, 3) := by decide +kernel
theorem dX6_count_204 : decode cX6_count 204 = .ok (.ireturn, 1) := by decide +kernel
theorem dX6_count_205 : decode cX6_count 205 = .ok (.bipush (-2), 2) := by decide +kernel
theorem dX6_count_207 : decode cX6_count 207 = .ok (.ireturn, 1) := by decide +kernel
def rm_X6_count : Room := { frames := 5, cells := 0, slots := 0, locals := 112 }
set_option maxRecDepth 100000 in
set_option maxHeartbeats 4000000 in
theorem ok_X6_count_0 {E : Ev} {X : Xt} {l0 : Launch} {K : Int32 → Hp → Prop} (hC : Cx E X l0 RX6 cX6_count 2 rm_X6_count) (hQ : CQ E X "count" (some .int) rm_X6_count (KI K)) (a0 : Nat) (a1 : Int32) (h : Hp) (hV : V_X6_count a0 a1 h K) : WW E X h 0 0 0 [some (rv a0), some (.int a1)] [] := by
  unfold V_X6_count at hV
  refine r_iload_n hC dX6_count_0 rfl ?_
  rcases (show a1.toInt = 0 ∨ a1.toInt = 1 ∨ a1.toInt = 2 ∨ a1.toInt = 3 ∨ a1.toInt = 4 ∨ a1.toInt = 5 ∨ a1.toInt = 6 ∨ a1.toInt = 7 ∨ a1.toInt = 8 ∨ a1.toInt = 9 ∨ a1.toInt = 10 ∨ a1.toInt = 11 ∨ a1.toInt = 12 ∨ a1.toInt = 13 ∨ a1.toInt = 14 ∨ a1.toInt = 15 ∨ (a1.toInt < 0 ∨ 15 < a1.toInt) by omega) with k9 | k9 | k9 | k9 | k9 | k9 | k9 | k9 | k9 | k9 | k9 | k9 | k9 | k9 | k9 | k9 | k9
  · replace hV := hV.1 k9
    refine r_tabIn (tgt := 80) hC dX6_count_1 0 (by omega) (by decide) rfl (by decide) ?_
    refine r_aload_n hC dX6_count_80 rfl ?_
    obtain ⟨k9, hV⟩ := hV
    refine r_getR hC dX6_count_81 fl_6_19 rf_6_1 lq_6 k9 ?_
    obtain ⟨k9, hV⟩ := hV
    refine r_getI hC dX6_count_84 fl_6_61 rf_5_3 lq_5 k9 ?_
    exact r_iret hC hQ dX6_count_87 (Nat.le_of_ble_eq_true rfl) (Nat.le_of_ble_eq_true rfl) ⟨_, rfl, hV⟩
  · replace hV := hV.2.1 k9
    refine r_tabIn (tgt := 88) hC dX6_count_1 1 (by omega) (by decide) rfl (by decide) ?_
    refine r_aload_n hC dX6_count_88 rfl ?_
    obtain ⟨k9, hV⟩ := hV
    refine r_getR hC dX6_count_89 fl_6_19 rf_6_1 lq_6 k9 ?_
    obtain ⟨k9, hV⟩ := hV
    refine r_getI hC dX6_count_92 fl_6_121 rf_5_4 lq_5 k9 ?_
    exact r_iret hC hQ dX6_count_95 (Nat.le_of_ble_eq_true rfl) (Nat.le_of_ble_eq_true rfl) ⟨_, rfl, hV⟩
  · replace hV := hV.2.2.1 k9
    refine r_tabIn (tgt := 96) hC dX6_count_1 2 (by omega) (by decide) rfl (by decide) ?_
    refine r_aload_n hC dX6_count_96 rfl ?_
    obtain ⟨k9, hV⟩ := hV
    refine r_getR hC dX6_count_97 fl_6_19 rf_6_1 lq_6 k9 ?_
    obtain ⟨k9, hV⟩ := hV
    refine r_getI hC dX6_count_100 fl_6_51 rf_5_5 lq_5 k9 ?_
    exact r_iret hC hQ dX6_count_103 (Nat.le_of_ble_eq_true rfl) (Nat.le_of_ble_eq_true rfl) ⟨_, rfl, hV⟩
  · replace hV := hV.2.2.2.1 k9
    refine r_tabIn (tgt := 104) hC dX6_count_1 3 (by omega) (by decide) rfl (by decide) ?_
    refine r_aload_n hC dX6_count_104 rfl ?_
    obtain ⟨k9, hV⟩ := hV
    refine r_getR hC dX6_count_105 fl_6_19 rf_6_1 lq_6 k9 ?_
    obtain ⟨k9, hV⟩ := hV
    refine r_callV (ci := 5) (As := []) hC dX6_count_108 rfl cf_X5_metalInCases ml_6_237 im_X5_metalInCases sl_X5_metalInCases lq_5 rfl rfl k9 rfl ⟨(Nat.le_of_ble_eq_true rfl), (Nat.le_of_ble_eq_true rfl), (Nat.le_of_ble_eq_true rfl), (Nat.le_of_ble_eq_true rfl)⟩ cs0 (Nat.le_of_ble_eq_true rfl) (con_X5_metalInCases (hR h a0 1) h _ hV) rfl (kI (k := 0) (n := 0) (fun r1 h1 hV => ?_))
    exact r_iret hC hQ dX6_count_111 (Nat.le_of_ble_eq_true rfl) (Nat.le_of_ble_eq_true rfl) ⟨_, rfl, hV⟩
  · replace hV := hV.2.2.2.2.1 k9
    refine r_tabIn (tgt := 112) hC dX6_count_1 4 (by omega) (by decide) rfl (by decide) ?_
    refine r_aload_n hC dX6_count_112 rfl ?_
    obtain ⟨k9, hV⟩ := hV
    refine r_getR hC dX6_count_113 fl_6_19 rf_6_1 lq_6 k9 ?_
    obtain ⟨k9, hV⟩ := hV
    refine r_callV (ci := 5) (As := []) hC dX6_count_116 rfl cf_X5_metalInFormes ml_6_240 im_X5_metalInFormes sl_X5_metalInFormes lq_5 rfl rfl k9 rfl ⟨(Nat.le_of_ble_eq_true rfl), (Nat.le_of_ble_eq_true rfl), (Nat.le_of_ble_eq_true rfl), (Nat.le_of_ble_eq_true rfl)⟩ cs0 (Nat.le_of_ble_eq_true rfl) (con_X5_metalInFormes (hR h a0 1) h _ hV) rfl (kI (k := 0) (n := 0) (fun r1 h1 hV => ?_))
    exact r_iret hC hQ dX6_count_119 (Nat.le_of_ble_eq_true rfl) (Nat.le_of_ble_eq_true rfl) ⟨_, rfl, hV⟩
  · replace hV := hV.2.2.2.2.2.1 k9
    refine r_tabIn (tgt := 120) hC dX6_count_1 5 (by omega) (by decide) rfl (by decide) ?_
    refine r_aload_n hC dX6_count_120 rfl ?_
    obtain ⟨k9, hV⟩ := hV
    refine r_getR hC dX6_count_121 fl_6_19 rf_6_1 lq_6 k9 ?_
    obtain ⟨k9, hV⟩ := hV
    refine r_callV (ci := 5) (As := []) hC dX6_count_124 rfl cf_X5_wornMetal ml_6_93 im_X5_wornMetal sl_X5_wornMetal lq_5 rfl rfl k9 rfl ⟨(Nat.le_of_ble_eq_true rfl), (Nat.le_of_ble_eq_true rfl), (Nat.le_of_ble_eq_true rfl), (Nat.le_of_ble_eq_true rfl)⟩ cs0 (Nat.le_of_ble_eq_true rfl) (con_X5_wornMetal (hR h a0 1) h _ hV) rfl (kI (k := 0) (n := 0) (fun r1 h1 hV => ?_))
    exact r_iret hC hQ dX6_count_127 (Nat.le_of_ble_eq_true rfl) (Nat.le_of_ble_eq_true rfl) ⟨_, rfl, hV⟩
  · replace hV := hV.2.2.2.2.2.2.1 k9
    refine r_tabIn (tgt := 128) hC dX6_count_1 6 (by omega) (by decide) rfl (by decide) ?_
    refine r_aload_n hC dX6_count_128 rfl ?_
    obtain ⟨k9, hV⟩ := hV
    refine r_getR hC dX6_count_129 fl_6_19 rf_6_1 lq_6 k9 ?_
    obtain ⟨k9, hV⟩ := hV
    refine r_getI hC dX6_count_132 fl_6_58 rf_5_7 lq_5 k9 ?_
    exact r_iret hC hQ dX6_count_135 (Nat.le_of_ble_eq_true rfl) (Nat.le_of_ble_eq_true rfl) ⟨_, rfl, hV⟩
  · replace hV := hV.2.2.2.2.2.2.2.1 k9
    refine r_tabIn (tgt := 136) hC dX6_count_1 7 (by omega) (by decide) rfl (by decide) ?_
    refine r_aload_n hC dX6_count_136 rfl ?_
    obtain ⟨k9, hV⟩ := hV
    refine r_getR hC dX6_count_137 fl_6_19 rf_6_1 lq_6 k9 ?_
    obtain ⟨k9, hV⟩ := hV
    refine r_getI hC dX6_count_140 fl_6_99 rf_5_8 lq_5 k9 ?_
    exact r_iret hC hQ dX6_count_143 (Nat.le_of_ble_eq_true rfl) (Nat.le_of_ble_eq_true rfl) ⟨_, rfl, hV⟩
  · replace hV := hV.2.2.2.2.2.2.2.2.1 k9
    refine r_tabIn (tgt := 144) hC dX6_count_1 8 (by omega) (by decide) rfl (by decide) ?_
    refine r_aload_n hC dX6_count_144 rfl ?_
    obtain ⟨k9, hV⟩ := hV
    refine r_getR hC dX6_count_145 fl_6_19 rf_6_1 lq_6 k9 ?_
    obtain ⟨k9, hV⟩ := hV
    refine r_getI hC dX6_count_148 fl_6_243 rf_5_9 lq_5 k9 ?_
    exact r_iret hC hQ dX6_count_151 (Nat.le_of_ble_eq_true rfl) (Nat.le_of_ble_eq_true rfl) ⟨_, rfl, hV⟩
  · replace hV := hV.2.2.2.2.2.2.2.2.2.1 k9
    refine r_tabIn (tgt := 152) hC dX6_count_1 9 (by omega) (by decide) rfl (by decide) ?_
    refine r_aload_n hC dX6_count_152 rfl ?_
    obtain ⟨k9, hV⟩ := hV
    refine r_getR hC dX6_count_153 fl_6_19 rf_6_1 lq_6 k9 ?_
    obtain ⟨k9, hV⟩ := hV
    refine r_getI hC dX6_count_156 fl_6_86 rf_5_10 lq_5 k9 ?_
    exact r_iret hC hQ dX6_count_159 (Nat.le_of_ble_eq_true rfl) (Nat.le_of_ble_eq_true rfl) ⟨_, rfl, hV⟩
  · replace hV := hV.2.2.2.2.2.2.2.2.2.2.1 k9
    refine r_tabIn (tgt := 160) hC dX6_count_1 10 (by omega) (by decide) rfl (by decide) ?_
    refine r_aload_n hC dX6_count_160 rfl ?_
    obtain ⟨k9, hV⟩ := hV
    refine r_getR hC dX6_count_161 fl_6_19 rf_6_1 lq_6 k9 ?_
    obtain ⟨k9, hV⟩ := hV
    refine r_callV (ci := 5) (As := []) hC dX6_count_164 rfl cf_X5_wornPieces ml_6_89 im_X5_wornPieces sl_X5_wornPieces lq_5 rfl rfl k9 rfl ⟨(Nat.le_of_ble_eq_true rfl), (Nat.le_of_ble_eq_true rfl), (Nat.le_of_ble_eq_true rfl), (Nat.le_of_ble_eq_true rfl)⟩ cs0 (Nat.le_of_ble_eq_true rfl) (con_X5_wornPieces (hR h a0 1) h _ hV) rfl (kI (k := 0) (n := 0) (fun r1 h1 hV => ?_))
    exact r_iret hC hQ dX6_count_167 (Nat.le_of_ble_eq_true rfl) (Nat.le_of_ble_eq_true rfl) ⟨_, rfl, hV⟩
  · replace hV := hV.2.2.2.2.2.2.2.2.2.2.2.1 k9
    refine r_tabIn (tgt := 168) hC dX6_count_1 11 (by omega) (by decide) rfl (by decide) ?_
    refine r_aload_n hC dX6_count_168 rfl ?_
    obtain ⟨k9, hV⟩ := hV
    refine r_getR hC dX6_count_169 fl_6_19 rf_6_1 lq_6 k9 ?_
    obtain ⟨k9, hV⟩ := hV
    refine r_getI hC dX6_count_172 fl_6_166 rf_5_6 lq_5 k9 ?_
    exact r_iret hC hQ dX6_count_175 (Nat.le_of_ble_eq_true rfl) (Nat.le_of_ble_eq_true rfl) ⟨_, rfl, hV⟩
  · replace hV := hV.2.2.2.2.2.2.2.2.2.2.2.2.1 k9
    refine r_tabIn (tgt := 176) hC dX6_count_1 12 (by omega) (by decide) rfl (by decide) ?_
    refine r_aload_n hC dX6_count_176 rfl ?_
    obtain ⟨k9, hV⟩ := hV
    refine r_getR hC dX6_count_177 fl_6_19 rf_6_1 lq_6 k9 ?_
    obtain ⟨k9, hV⟩ := hV
    refine r_callV (ci := 5) (As := []) hC dX6_count_180 rfl cf_X5_allDaysLate ml_6_246 im_X5_allDaysLate sl_X5_allDaysLate lq_5 rfl rfl k9 rfl ⟨(Nat.le_of_ble_eq_true rfl), (Nat.le_of_ble_eq_true rfl), (Nat.le_of_ble_eq_true rfl), (Nat.le_of_ble_eq_true rfl)⟩ cs0 (Nat.le_of_ble_eq_true rfl) (con_X5_allDaysLate (hR h a0 1) h _ hV) rfl (kI (k := 0) (n := 0) (fun r1 h1 hV => ?_))
    exact r_iret hC hQ dX6_count_183 (Nat.le_of_ble_eq_true rfl) (Nat.le_of_ble_eq_true rfl) ⟨_, rfl, hV⟩
  · replace hV := hV.2.2.2.2.2.2.2.2.2.2.2.2.2.1 k9
    refine r_tabIn (tgt := 184) hC dX6_count_1 13 (by omega) (by decide) rfl (by decide) ?_
    refine r_aload_n hC dX6_count_184 rfl ?_
    obtain ⟨k9, hV⟩ := hV
    refine r_getR hC dX6_count_185 fl_6_19 rf_6_1 lq_6 k9 ?_
    obtain ⟨k9, hV⟩ := hV
    refine r_callV (ci := 5) (As := []) hC dX6_count_188 rfl cf_X5_overdueJobs ml_6_249 im_X5_overdueJobs sl_X5_overdueJobs lq_5 rfl rfl k9 rfl ⟨(Nat.le_of_ble_eq_true rfl), (Nat.le_of_ble_eq_true rfl), (Nat.le_of_ble_eq_true rfl), (Nat.le_of_ble_eq_true rfl)⟩ cs0 (Nat.le_of_ble_eq_true rfl) (con_X5_overdueJobs (hR h a0 1) h _ hV) rfl (kI (k := 0) (n := 0) (fun r1 h1 hV => ?_))
    exact r_iret hC hQ dX6_count_191 (Nat.le_of_ble_eq_true rfl) (Nat.le_of_ble_eq_true rfl) ⟨_, rfl, hV⟩
  · replace hV := hV.2.2.2.2.2.2.2.2.2.2.2.2.2.2.1 k9
    refine r_tabIn (tgt := 192) hC dX6_count_1 14 (by omega) (by decide) rfl (by decide) ?_
    refine r_aload_n hC dX6_count_192 rfl ?_
    obtain ⟨k9, hV⟩ := hV
    refine r_getI hC dX6_count_193 fl_6_27 rf_6_3 lq_6 k9 ?_
    exact r_iret hC hQ dX6_count_196 (Nat.le_of_ble_eq_true rfl) (Nat.le_of_ble_eq_true rfl) ⟨_, rfl, hV⟩
  · replace hV := hV.2.2.2.2.2.2.2.2.2.2.2.2.2.2.2.1 k9
    refine r_tabIn (tgt := 197) hC dX6_count_1 15 (by omega) (by decide) rfl (by decide) ?_
    refine r_aload_n hC dX6_count_197 rfl ?_
    obtain ⟨k9, hV⟩ := hV
    refine r_getR hC dX6_count_198 fl_6_10 rf_6_0 lq_6 k9 ?_
    obtain ⟨k9, hV⟩ := hV
    refine r_getI hC dX6_count_201 fl_6_106 rf_0_1 lq_0 k9 ?_
    exact r_iret hC hQ dX6_count_204 (Nat.le_of_ble_eq_true rfl) (Nat.le_of_ble_eq_true rfl) ⟨_, rfl, hV⟩
  · replace hV := hV.2.2.2.2.2.2.2.2.2.2.2.2.2.2.2.2 k9
    refine r_tabOut (tgt := 205) hC dX6_count_1 k9 (by decide) ?_
    refine r_bipush (v := (-2)) hC dX6_count_205 (by decide) ?_
    exact r_iret hC hQ dX6_count_207 (Nat.le_of_ble_eq_true rfl) (Nat.le_of_ble_eq_true rfl) ⟨_, rfl, hV⟩
set_option maxRecDepth 100000 in
set_option maxHeartbeats 4000000 in
theorem con_X6_count {E : Ev} {l0 : Launch} (a0 : Nat) (a1 : Int32) (h : Hp) (K : Int32 → Hp → Prop) (hV : V_X6_count a0 a1 h K) : Con E l0 yX6_count cX6_count 2 (some .int) rm_X6_count [rv a0, .int a1] h (KI K) := by
  refine Con.of (by decide +kernel) (cat_R (cat_I cat_nil)) (Nat.le_of_ble_eq_true rfl) (fun X hC hQ => ?_)
  refine r_sub (lo1 := [some (rv a0), some (.int a1)]) (show lsub [some (rv a0), some (.int a1)] _ from ⟨Or.inr rfl, ⟨Or.inr rfl, trivial⟩⟩) ?_
  exact ok_X6_count_0 hC hQ a0 a1 h hV
theorem dX6_distribute_0 : decode cX6_distribute 0 = .ok (.aload_n 0, 1) := by decide +kernel
theorem dX6_distribute_1 : decode cX6_distribute 1 = .ok (.getfield 19, 3) := by decide +kernel
theorem dX6_distribute_4 : decode cX6_distribute 4 = .ok (.iload_n 1, 1) := by decide +kernel
theorem dX6_distribute_5 : decode cX6_distribute 5 = .ok (.invokevirtual 138, 3) := by decide +kernel
theorem dX6_distribute_8 : decode cX6_distribute 8 = .ok (.astore_n 2, 1) := by decide +kernel
theorem dX6_distribute_9 : decode cX6_distribute 9 = .ok (.aload_n 2, 1) := by decide +kernel
theorem dX6_distribute_10 : decode cX6_distribute 10 = .ok (.ifnonnull 5, 3) := by decide +kernel
theorem dX6_distribute_13 : decode cX6_distribute 13 = .ok (.iconst (-1), 1) := by decide +kernel
theorem dX6_distribute_14 : decode cX6_distribute 14 = .ok (.ireturn, 1) := by decide +kernel
theorem dX6_distribute_15 : decode cX6_distribute 15 = .ok (.aload_n 2, 1) := by decide +kernel
theorem dX6_distribute_16 : decode cX6_distribute 16 = .ok (.getfield 142, 3) := by decide +kernel
theorem dX6_distribute_19 : decode cX6_distribute 19 = .ok (.iconst 2, 1) := by decide +kernel
theorem dX6_distribute_20 : decode cX6_distribute 20 = .ok (.if_icmp .eq 6, 3) := by decide +kernel
theorem dX6_distribute_23 : decode cX6_distribute 23 = .ok (.bipush (-4), 2) := by decide +kernel
theorem dX6_distribute_25 : decode cX6_distribute 25 = .ok (.ireturn, 1) := by decide +kernel
theorem dX6_distribute_26 : decode cX6_distribute 26 = .ok (.aload_n 0, 1) := by decide +kernel
theorem dX6_distribute_27 : decode cX6_distribute 27 = .ok (.invokevirtual 55, 3) := by decide +kernel
theorem dX6_distribute_30 : decode cX6_distribute 30 = .ok (.aload_n 0, 1) := by decide +kernel
theorem dX6_distribute_31 : decode cX6_distribute 31 = .ok (.aload_n 2, 1) := by decide +kernel
theorem dX6_distribute_32 : decode cX6_distribute 32 = .ok (.iconst 1, 1) := by decide +kernel
theorem dX6_distribute_33 : decode cX6_distribute 33 = .ok (.invokevirtual 175, 3) := by decide +kernel
theorem dX6_distribute_36 : decode cX6_distribute 36 = .ok (.istore_n 3, 1) := by decide +kernel
theorem dX6_distribute_37 : decode cX6_distribute 37 = .ok (.aload_n 0, 1) := by decide +kernel
theorem dX6_distribute_38 : decode cX6_distribute 38 = .ok (.getfield 19, 3) := by decide +kernel
theorem dX6_distribute_41 : decode cX6_distribute 41 = .ok (.iload_n 1, 1) := by decide +kernel
theorem dX6_distribute_42 : decode cX6_distribute 42 = .ok (.new 124, 3) := by decide +kernel
theorem dX6_distribute_45 : decode cX6_distribute 45 = .ok (.dup, 1) := by decide +kernel
theorem dX6_distribute_46 : decode cX6_distribute 46 = .ok (.aload_n 2, 1) := by decide +kernel
theorem dX6_distribute_47 : decode cX6_distribute 47 = .ok (.getfield 152, 3) := by decide +kernel
theorem dX6_distribute_50 : decode cX6_distribute 50 = .ok (.iconst 3, 1) := by decide +kernel
theorem dX6_distribute_51 : decode cX6_distribute 51 = .ok (.aload_n 2, 1) := by decide +kernel
theorem dX6_distribute_52 : decode cX6_distribute 52 = .ok (.getfield 179, 3) := by decide +kernel
theorem dX6_distribute_55 : decode cX6_distribute 55 = .ok (.iconst 0, 1) := by decide +kernel
theorem dX6_distribute_56 : decode cX6_distribute 56 = .ok (.newarray .int, 2) := by decide +kernel
theorem dX6_distribute_58 : decode cX6_distribute 58 = .ok (.invokespecial 131, 3) := by decide +kernel
theorem dX6_distribute_61 : decode cX6_distribute 61 = .ok (.invokevirtual 134, 3) := by decide +kernel
theorem dX6_distribute_64 : decode cX6_distribute 64 = .ok (.iload_n 3, 1) := by decide +kernel
theorem dX6_distribute_65 : decode cX6_distribute 65 = .ok (.ireturn, 1) := by decide +kernel
def rm_X6_distribute : Room := { frames := 3, cells := 6, slots := 230, locals := 73 }
set_option maxRecDepth 100000 in
set_option maxHeartbeats 4000000 in
theorem ok_X6_distribute_0 {E : Ev} {X : Xt} {l0 : Launch} {K : Int32 → Hp → Prop} (hC : Cx E X l0 RX6 cX6_distribute 4 rm_X6_distribute) (hQ : CQ E X "distribute" (some .int) rm_X6_distribute (KI K)) (a0 : Nat) (a1 : Int32) (h : Hp) (hV : V_X6_distribute a0 a1 h K) : WW E X h 0 0 0 [some (rv a0), some (.int a1), none, none] [] := by
  unfold V_X6_distribute at hV
  refine r_aload_n hC dX6_distribute_0 rfl ?_
  obtain ⟨k9, hV⟩ := hV
  refine r_getR hC dX6_distribute_1 fl_6_19 rf_6_1 lq_6 k9 ?_
  refine r_iload_n hC dX6_distribute_4 rfl ?_
  obtain ⟨k9, hV⟩ := hV
  refine r_callV (ci := 5) (As := [.int a1]) hC dX6_distribute_5 rfl cf_X5_findJob ml_6_138 im_X5_findJob sl_X5_findJob lq_5 rfl rfl k9 rfl ⟨(Nat.le_of_ble_eq_true rfl), (Nat.le_of_ble_eq_true rfl), (Nat.le_of_ble_eq_true rfl), (Nat.le_of_ble_eq_true rfl)⟩ cs0 (Nat.le_of_ble_eq_true rfl) (con_X5_findJob (hR h a0 1) a1 h _ hV) rfl (kR (k := 0) (n := 0) (fun r1 h1 hV => ?_))
  refine r_astore_n (ii := 2) (lo1 := [some (rv a0), some (.int a1), some (rv r1), none]) hC dX6_distribute_8 rfl (Nat.le_of_ble_eq_true rfl) (pvI rfl) rfl ?_
  refine r_aload_n hC dX6_distribute_9 rfl ?_
  refine r_ifnonnull (tgt := 15) hC dX6_distribute_10 (by decide) (fun k9 => ?_) (fun k9 => ?_)
  · replace hV := hV.1 k9
    refine r_aload_n hC dX6_distribute_15 rfl ?_
    obtain ⟨k9, hV⟩ := hV
    refine r_getI hC dX6_distribute_16 fl_6_142 rf_1_1 lq_1 k9 ?_
    refine r_iconst (v := 2) hC dX6_distribute_19 (by decide) ?_
    refine r_icmp_eq (tgt := 26) hC dX6_distribute_20 (by decide) (fun k9 => ?_) (fun k9 => ?_)
    · replace hV := hV.1 k9
      refine r_aload_n hC dX6_distribute_26 rfl ?_
      obtain ⟨k9, hV⟩ := hV
      refine r_callV (ci := 6) (As := []) hC dX6_distribute_27 rfl cf_X6_recordState ml_6_55 im_X6_recordState sl_X6_recordState lq_6 rfl rfl k9 rfl ⟨(Nat.le_of_ble_eq_true rfl), (Nat.le_of_ble_eq_true rfl), (Nat.le_of_ble_eq_true rfl), (Nat.le_of_ble_eq_true rfl)⟩ cs0 (Nat.le_of_ble_eq_true rfl) (con_X6_recordState a0 h1 _ hV) rfl (kV (k := 4) (n := 226) (fun h2 hV => ?_))
      refine r_aload_n hC dX6_distribute_30 rfl ?_
      refine r_aload_n hC dX6_distribute_31 rfl ?_
      refine r_iconst (v := 1) hC dX6_distribute_32 (by decide) ?_
      obtain ⟨k9, hV⟩ := hV
      refine r_callV (ci := 6) (As := [rv r1, .int 1]) hC dX6_distribute_33 rfl cf_X6_giveBack ml_6_175 im_X6_giveBack sl_X6_giveBack lq_6 rfl rfl k9 rfl ⟨(Nat.le_of_ble_eq_true rfl), (Nat.le_of_ble_eq_true rfl), (Nat.le_of_ble_eq_true rfl), (Nat.le_of_ble_eq_true rfl)⟩ cs0 (Nat.le_of_ble_eq_true rfl) (con_X6_giveBack a0 r1 1 h2 _ hV) rfl (kI (k := 4) (n := 226) (fun r2 h3 hV => ?_))
      refine r_istore_n (ii := 3) (lo1 := [some (rv a0), some (.int a1), some (rv r1), some (.int r2)]) hC dX6_distribute_36 rfl (Nat.le_of_ble_eq_true rfl) (pvR rfl) rfl ?_
      refine r_aload_n hC dX6_distribute_37 rfl ?_
      obtain ⟨k9, hV⟩ := hV
      refine r_getR hC dX6_distribute_38 fl_6_19 rf_6_1 lq_6 k9 ?_
      refine r_iload_n hC dX6_distribute_41 rfl ?_
      refine r_new (ci := 1) hC dX6_distribute_42 kl_6_124 ki_1 kz_1 rfl iw_1 ft_1 df_1 lq_1 ⟨(Nat.le_of_ble_eq_true rfl), (Nat.le_of_ble_eq_true rfl)⟩ (fun q1 k9 k8 => nmH (fun h4 k7 => ?_))
      replace hV := hV q1 k9 k8 h4 k7
      refine r_dup hC dX6_distribute_45 (rv_cat _) ?_
      refine r_aload_n hC dX6_distribute_46 rfl ?_
      obtain ⟨k9, hV⟩ := hV
      refine r_getR hC dX6_distribute_47 fl_6_152 rf_1_0 lq_1 k9 ?_
      refine r_iconst (v := 3) hC dX6_distribute_50 (by decide) ?_
      refine r_aload_n hC dX6_distribute_51 rfl ?_
      obtain ⟨k9, hV⟩ := hV
      refine r_getI hC dX6_distribute_52 fl_6_179 rf_1_2 lq_1 k9 ?_
      refine r_iconst (v := 0) hC dX6_distribute_55 (by decide) ?_
      refine r_newarr (kd := 20) (d := 0) (N := 0) hC dX6_distribute_56 (by decide) rfl (by decide) rfl ka_0 (by decide) (by decide) (by decide) ⟨(Nat.le_of_ble_eq_true rfl), (Nat.le_of_ble_eq_true rfl)⟩ (fun q2 k9 k8 => nmH (fun h5 k7 => ?_))
      replace hV := hV q2 k9 k8 h5 k7
      obtain ⟨k9, hV⟩ := hV
      refine r_callI (As := [rv (hR h4 r1 0), .int 3, .int (hI h4 r1 2), rv q2]) hC dX6_distribute_58 rfl cf_X1_init ml_6_131 rfl im_X1_init k9 rfl ⟨(Nat.le_of_ble_eq_true rfl), (Nat.le_of_ble_eq_true rfl), (Nat.le_of_ble_eq_true rfl), (Nat.le_of_ble_eq_true rfl)⟩ (csR (csI (csR cs0))) (Nat.le_of_ble_eq_true rfl) (con_X1_init q1 (hR h4 r1 0) 3 (hI h4 r1 2) q2 h5 _ hV) rfl (kV (k := 6) (n := 230) (fun h6 hV => ?_))
      obtain ⟨k9, hV⟩ := hV
      refine r_callV (ci := 5) (As := [.int a1, rv q1]) hC dX6_distribute_61 rfl cf_X5_putJob ml_6_134 im_X5_putJob sl_X5_putJob lq_5 rfl rfl k9 rfl ⟨(Nat.le_of_ble_eq_true rfl), (Nat.le_of_ble_eq_true rfl), (Nat.le_of_ble_eq_true rfl), (Nat.le_of_ble_eq_true rfl)⟩ cs0 (Nat.le_of_ble_eq_true rfl) (con_X5_putJob (hR h3 a0 1) a1 q1 h6 _ hV) rfl (kV (k := 6) (n := 230) (fun h7 hV => ?_))
      refine r_iload_n hC dX6_distribute_64 rfl ?_
      exact r_iret hC hQ dX6_distribute_65 (Nat.le_of_ble_eq_true rfl) (Nat.le_of_ble_eq_true rfl) ⟨_, rfl, hV⟩
    · replace hV := hV.2 k9
      refine r_bipush (v := (-4)) hC dX6_distribute_23 (by decide) ?_
      exact r_iret hC hQ dX6_distribute_25 (Nat.le_of_ble_eq_true rfl) (Nat.le_of_ble_eq_true rfl) ⟨_, rfl, hV⟩
  · replace hV := hV.2 k9
    refine r_iconst (v := (-1)) hC dX6_distribute_13 (by decide) ?_
    exact r_iret hC hQ dX6_distribute_14 (Nat.le_of_ble_eq_true rfl) (Nat.le_of_ble_eq_true rfl) ⟨_, rfl, hV⟩
set_option maxRecDepth 100000 in
set_option maxHeartbeats 4000000 in
theorem con_X6_distribute {E : Ev} {l0 : Launch} (a0 : Nat) (a1 : Int32) (h : Hp) (K : Int32 → Hp → Prop) (hV : V_X6_distribute a0 a1 h K) : Con E l0 yX6_distribute cX6_distribute 4 (some .int) rm_X6_distribute [rv a0, .int a1] h (KI K) := by
  refine Con.of (by decide +kernel) (cat_R (cat_I cat_nil)) (Nat.le_of_ble_eq_true rfl) (fun X hC hQ => ?_)
  refine r_sub (lo1 := [some (rv a0), some (.int a1), none, none]) (show lsub [some (rv a0), some (.int a1), none, none] _ from ⟨Or.inr rfl, ⟨Or.inr rfl, ⟨Or.inr rfl, ⟨Or.inr rfl, trivial⟩⟩⟩⟩) ?_
  exact ok_X6_distribute_0 hC hQ a0 a1 h hV
theorem dX6_findPiece_0 : decode cX6_findPiece 0 = .ok (.aload_n 1, 1) := by decide +kernel
theorem dX6_findPiece_1 : decode cX6_findPiece 1 = .ok (.getfield 152, 3) := by decide +kernel
theorem dX6_findPiece_4 : decode cX6_findPiece 4 = .ok (.getfield 202, 3) := by decide +kernel
theorem dX6_findPiece_7 : decode cX6_findPiece 7 = .ok (.astore 4, 2) := by decide +kernel
theorem dX6_findPiece_9 : decode cX6_findPiece 9 = .ok (.aload_n 0, 1) := by decide +kernel
theorem dX6_findPiece_10 : decode cX6_findPiece 10 = .ok (.getfield 37, 3) := by decide +kernel
theorem dX6_findPiece_13 : decode cX6_findPiece 13 = .ok (.aload_n 1, 1) := by decide +kernel
theorem dX6_findPiece_14 : decode cX6_findPiece 14 = .ok (.bipush 26, 2) := by decide +kernel
theorem dX6_findPiece_16 : decode cX6_findPiece 16 = .ok (.invokevirtual 258, 3) := by decide +kernel
theorem dX6_findPiece_19 : decode cX6_findPiece 19 = .ok (.aload_n 1, 1) := by decide +kernel
theorem dX6_findPiece_20 : decode cX6_findPiece 20 = .ok (.bipush 27, 2) := by decide +kernel
theorem dX6_findPiece_22 : decode cX6_findPiece 22 = .ok (.invokevirtual 258, 3) := by decide +kernel
theorem dX6_findPiece_25 : decode cX6_findPiece 25 = .ok (.invokevirtual 264, 3) := by decide +kernel
theorem dX6_findPiece_28 : decode cX6_findPiece 28 = .ok (.aload 4, 2) := by decide +kernel
theorem dX6_findPiece_30 : decode cX6_findPiece 30 = .ok (.iload_n 2, 1) := by decide +kernel
theorem dX6_findPiece_31 : decode cX6_findPiece 31 = .ok (.invokevirtual 221, 3) := by decide +kernel
theorem dX6_findPiece_34 : decode cX6_findPiece 34 = .ok (.istore 5, 2) := by decide +kernel
theorem dX6_findPiece_36 : decode cX6_findPiece 36 = .ok (.iconst 0, 1) := by decide +kernel
theorem dX6_findPiece_37 : decode cX6_findPiece 37 = .ok (.istore 6, 2) := by decide +kernel
theorem dX6_findPiece_39 : decode cX6_findPiece 39 = .ok (.iload 6, 2) := by decide +kernel
theorem dX6_findPiece_41 : decode cX6_findPiece 41 = .ok (.iload 5, 2) := by decide +kernel
theorem dX6_findPiece_43 : decode cX6_findPiece 43 = .ok (.if_icmp .ge 23, 3) := by decide +kernel
theorem dX6_findPiece_46 : decode cX6_findPiece 46 = .ok (.aload_n 0, 1) := by decide +kernel
theorem dX6_findPiece_47 : decode cX6_findPiece 47 = .ok (.getfield 37, 3) := by decide +kernel
theorem dX6_findPiece_50 : decode cX6_findPiece 50 = .ok (.aload 4, 2) := by decide +kernel
theorem dX6_findPiece_52 : decode cX6_findPiece 52 = .ok (.iload 6, 2) := by decide +kernel
theorem dX6_findPiece_54 : decode cX6_findPiece 54 = .ok (.invokevirtual 227, 3) := by decide +kernel
theorem dX6_findPiece_57 : decode cX6_findPiece 57 = .ok (.invokevirtual 268, 3) := by decide +kernel
theorem dX6_findPiece_60 : decode cX6_findPiece 60 = .ok (.iinc 6 1, 3) := by decide +kernel
theorem dX6_findPiece_63 : decode cX6_findPiece 63 = .ok (.goto (-24), 3) := by decide +kernel
theorem dX6_findPiece_66 : decode cX6_findPiece 66 = .ok (.iload_n 3, 1) := by decide +kernel
theorem dX6_findPiece_67 : decode cX6_findPiece 67 = .ok (.istore 6, 2) := by decide +kernel
theorem dX6_findPiece_69 : decode cX6_findPiece 69 = .ok (.aload 4, 2) := by decide +kernel
theorem dX6_findPiece_71 : decode cX6_findPiece 71 = .ok (.iload_n 2, 1) := by decide +kernel
theorem dX6_findPiece_72 : decode cX6_findPiece 72 = .ok (.invokevirtual 296, 3) := by decide +kernel
theorem dX6_findPiece_75 : decode cX6_findPiece 75 = .ok (.istore 7, 2) := by decide +kernel
theorem dX6_findPiece_77 : decode cX6_findPiece 77 = .ok (.iload 7, 2) := by decide +kernel
theorem dX6_findPiece_79 : decode cX6_findPiece 79 = .ok (.aload 4, 2) := by decide +kernel
theorem dX6_findPiece_81 : decode cX6_findPiece 81 = .ok (.getfield 299, 3) := by decide +kernel
theorem dX6_findPiece_84 : decode cX6_findPiece 84 = .ok (.iload_n 2, 1) := by decide +kernel
theorem dX6_findPiece_85 : decode cX6_findPiece 85 = .ok (.iaload, 1) := by decide +kernel
theorem dX6_findPiece_86 : decode cX6_findPiece 86 = .ok (.if_icmp .ge 91, 3) := by decide +kernel
theorem dX6_findPiece_89 : decode cX6_findPiece 89 = .ok (.aload 4, 2) := by decide +kernel
theorem dX6_findPiece_91 : decode cX6_findPiece 91 = .ok (.iload 7, 2) := by decide +kernel
theorem dX6_findPiece_93 : decode cX6_findPiece 93 = .ok (.invokevirtual 302, 3) := by decide +kernel
theorem dX6_findPiece_96 : decode cX6_findPiece 96 = .ok (.istore 8, 2) := by decide +kernel
theorem dX6_findPiece_98 : decode cX6_findPiece 98 = .ok (.iload 8, 2) := by decide +kernel
theorem dX6_findPiece_100 : decode cX6_findPiece 100 = .ok (.invokestatic 306, 3) := by decide +kernel
theorem dX6_findPiece_103 : decode cX6_findPiece 103 = .ok (.ifCond .eq 17, 3) := by decide +kernel
theorem dX6_findPiece_106 : decode cX6_findPiece 106 = .ok (.iload 6, 2) := by decide +kernel
theorem dX6_findPiece_108 : decode cX6_findPiece 108 = .ok (.ifCond .ne 6, 3) := by decide +kernel
theorem dX6_findPiece_111 : decode cX6_findPiece 111 = .ok (.iload 8, 2) := by decide +kernel
theorem dX6_findPiece_113 : decode cX6_findPiece 113 = .ok (.ireturn, 1) := by decide +kernel
theorem dX6_findPiece_114 : decode cX6_findPiece 114 = .ok (.iinc 6 (-1), 3) := by decide +kernel
theorem dX6_findPiece_117 : decode cX6_findPiece 117 = .ok (.goto 54, 3) := by decide +kernel
theorem dX6_findPiece_120 : decode cX6_findPiece 120 = .ok (.aload_n 0, 1) := by decide +kernel
theorem dX6_findPiece_121 : decode cX6_findPiece 121 = .ok (.getfield 37, 3) := by decide +kernel
theorem dX6_findPiece_124 : decode cX6_findPiece 124 = .ok (.aload 4, 2) := by decide +kernel
theorem dX6_findPiece_126 : decode cX6_findPiece 126 = .ok (.iload 5, 2) := by decide +kernel
theorem dX6_findPiece_128 : decode cX6_findPiece 128 = .ok (.invokevirtual 227, 3) := by decide +kernel
theorem dX6_findPiece_131 : decode cX6_findPiece 131 = .ok (.invokevirtual 268, 3) := by decide +kernel
theorem dX6_findPiece_134 : decode cX6_findPiece 134 = .ok (.iload 6, 2) := by decide +kernel
theorem dX6_findPiece_136 : decode cX6_findPiece 136 = .ok (.aload_n 0, 1) := by decide +kernel
theorem dX6_findPiece_137 : decode cX6_findPiece 137 = .ok (.getfield 37, 3) := by decide +kernel
theorem dX6_findPiece_140 : decode cX6_findPiece 140 = .ok (.invokevirtual 309, 3) := by decide +kernel
theorem dX6_findPiece_143 : decode cX6_findPiece 143 = .ok (.if_icmp .ge 13, 3) := by decide +kernel
theorem dX6_findPiece_146 : decode cX6_findPiece 146 = .ok (.aload_n 0, 1) := by decide +kernel
theorem dX6_findPiece_147 : decode cX6_findPiece 147 = .ok (.getfield 37, 3) := by decide +kernel
theorem dX6_findPiece_150 : decode cX6_findPiece 150 = .ok (.iload 6, 2) := by decide +kernel
theorem dX6_findPiece_152 : decode cX6_findPiece 152 = .ok (.invokevirtual 312, 3) := by decide +kernel
theorem dX6_findPiece_155 : decode cX6_findPiece 155 = .ok (.ireturn, 1) := by decide +kernel
theorem dX6_findPiece_156 : decode cX6_findPiece 156 = .ok (.iload 6, 2) := by decide +kernel
theorem dX6_findPiece_158 : decode cX6_findPiece 158 = .ok (.aload_n 0, 1) := by decide +kernel
theorem dX6_findPiece_159 : decode cX6_findPiece 159 = .ok (.getfield 37, 3) := by decide +kernel
theorem dX6_findPiece_162 : decode cX6_findPiece 162 = .ok (.invokevirtual 309, 3) := by decide +kernel
theorem dX6_findPiece_165 : decode cX6_findPiece 165 = .ok (.isub, 1) := by decide +kernel
theorem dX6_findPiece_166 : decode cX6_findPiece 166 = .ok (.istore 6, 2) := by decide +kernel
theorem dX6_findPiece_168 : decode cX6_findPiece 168 = .ok (.iinc 5 1, 3) := by decide +kernel
theorem dX6_findPiece_171 : decode cX6_findPiece 171 = .ok (.iinc 7 1, 3) := by decide +kernel
theorem dX6_findPiece_174 : decode cX6_findPiece 174 = .ok (.goto (-97), 3) := by decide +kernel
theorem dX6_findPiece_177 : decode cX6_findPiece 177 = .ok (.iload 5, 2) := by decide +kernel
theorem dX6_findPiece_179 : decode cX6_findPiece 179 = .ok (.aload 4, 2) := by decide +kernel
theorem dX6_findPiece_181 : decode cX6_findPiece 181 = .ok (.getfield 224, 3) := by decide +kernel
theorem dX6_findPiece_184 : decode cX6_findPiece 184 = .ok (.iload_n 2, 1) := by decide +kernel
theorem dX6_findPiece_185 : decode cX6_findPiece 185 = .ok (.iaload, 1) := by decide +kernel
theorem dX6_findPiece_186 : decode cX6_findPiece 186 = .ok (.if_icmp .ge 39, 3) := by decide +kernel
theorem dX6_findPiece_189 : decode cX6_findPiece 189 = .ok (.aload_n 0, 1) := by decide +kernel
theorem dX6_findPiece_190 : decode cX6_findPiece 190 = .ok (.getfield 37, 3) := by decide +kernel
theorem dX6_findPiece_193 : decode cX6_findPiece 193 = .ok (.aload 4, 2) := by decide +kernel
theorem dX6_findPiece_195 : decode cX6_findPiece 195 = .ok (.iload 5, 2) := by decide +kernel
theorem dX6_findPiece_197 : decode cX6_findPiece 197 = .ok (.invokevirtual 227, 3) := by decide +kernel
theorem dX6_findPiece_200 : decode cX6_findPiece 200 = .ok (.invokevirtual 268, 3) := by decide +kernel
theorem dX6_findPiece_203 : decode cX6_findPiece 203 = .ok (.iload 6, 2) := by decide +kernel
theorem dX6_findPiece_205 : decode cX6_findPiece 205 = .ok (.aload_n 0, 1) := by decide +kernel
theorem dX6_findPiece_206 : decode cX6_findPiece 206 = .ok (.getfield 37, 3) := by decide +kernel
theorem dX6_findPiece_209 : decode cX6_findPiece 209 = .ok (.invokevirtual 309, 3) := by decide +kernel
theorem dX6_findPiece_212 : decode cX6_findPiece 212 = .ok (.if_icmp .ge 13, 3) := by decide +kernel
theorem dX6_findPiece_215 : decode cX6_findPiece 215 = .ok (.aload_n 0, 1) := by decide +kernel
theorem dX6_findPiece_216 : decode cX6_findPiece 216 = .ok (.getfield 37, 3) := by decide +kernel
theorem dX6_findPiece_219 : decode cX6_findPiece 219 = .ok (.iload 6, 2) := by decide +kernel
theorem dX6_findPiece_221 : decode cX6_findPiece 221 = .ok (.invokevirtual 312, 3) := by decide +kernel
theorem dX6_findPiece_224 : decode cX6_findPiece 224 = .ok (.ireturn, 1) := by decide +kernel
theorem dX6_findPiece_225 : decode cX6_findPiece 225 = .ok (.bipush (-5), 2) := by decide +kernel
theorem dX6_findPiece_227 : decode cX6_findPiece 227 = .ok (.ireturn, 1) := by decide +kernel
def rm_X6_findPiece : Room := { frames := 3, cells := 0, slots := 0, locals := 67 }
set_option maxRecDepth 100000 in
set_option maxHeartbeats 4000000 in
theorem ok_X6_findPiece_171 {E : Ev} {X : Xt} {l0 : Launch} {K : Int32 → Hp → Prop} {C77 : Nat → Int32 → Nat → Int32 → Int32 → Int32 → Hp → Prop} (hC : Cx E X l0 RX6 cX6_findPiece 9 rm_X6_findPiece) (hQ : CQ E X "findPiece" (some .int) rm_X6_findPiece (KI K)) (hC77 : ∀ (a0 : Nat) (a2 : Int32) (a4 : Nat) (a5 : Int32) (a6 : Int32) (a7 : Int32) (h : Hp), C77 a0 a2 a4 a5 a6 a7 h → WW E X h 0 0 77 [some (rv a0), none, some (.int a2), none, some (rv a4), some (.int a5), some (.int a6), some (.int a7), none] []) (a0 : Nat) (a2 : Int32) (a4 : Nat) (a5 : Int32) (a6 : Int32) (a7 : Int32) (h : Hp) (hV : V_X6_findPiece_171 K C77 a0 a2 a4 a5 a6 a7 h) : WW E X h 0 0 171 [some (rv a0), none, some (.int a2), none, some (rv a4), some (.int a5), some (.int a6), some (.int a7), none] [] := by
  unfold V_X6_findPiece_171 at hV
  refine r_iinc (v := 1) (lo1 := [some (rv a0), none, some (.int a2), none, some (rv a4), some (.int a5), some (.int a6), some (.int (a7 + 1)), none]) hC dX6_findPiece_171 rfl (by decide) (pvI rfl) rfl ?_
  refine r_goto (tgt := 77) hC dX6_findPiece_174 (by decide) ?_
  exact hC77 a0 a2 a4 a5 a6 (a7 + 1) h hV
set_option maxRecDepth 100000 in
set_option maxHeartbeats 4000000 in
theorem ok_X6_findPiece_225 {E : Ev} {X : Xt} {l0 : Launch} {K : Int32 → Hp → Prop} (hC : Cx E X l0 RX6 cX6_findPiece 9 rm_X6_findPiece) (hQ : CQ E X "findPiece" (some .int) rm_X6_findPiece (KI K)) (h : Hp) (hV : V_X6_findPiece_225 K  h) : WW E X h 0 0 225 [none, none, none, none, none, none, none, none, none] [] := by
  unfold V_X6_findPiece_225 at hV
  refine r_bipush (v := (-5)) hC dX6_findPiece_225 (by decide) ?_
  exact r_iret hC hQ dX6_findPiece_227 (Nat.le_of_ble_eq_true rfl) (Nat.le_of_ble_eq_true rfl) ⟨_, rfl, hV⟩
set_option maxRecDepth 100000 in
set_option maxHeartbeats 4000000 in
theorem ok_X6_findPiece_77 {E : Ev} {X : Xt} {l0 : Launch} {K : Int32 → Hp → Prop} (hC : Cx E X l0 RX6 cX6_findPiece 9 rm_X6_findPiece) (hQ : CQ E X "findPiece" (some .int) rm_X6_findPiece (KI K)) : ∀ (n : Nat) (a0 : Nat) (a2 : Int32) (a4 : Nat) (a5 : Int32) (a6 : Int32) (a7 : Int32) (h : Hp), V_X6_findPiece_77 K n a0 a2 a4 a5 a6 a7 h → WW E X h 0 0 77 [some (rv a0), none, some (.int a2), none, some (rv a4), some (.int a5), some (.int a6), some (.int a7), none] [] := by
  intro n
  induction n with
  | zero => intro a0 a2 a4 a5 a6 a7 h hV; exact hV.elim
  | succ n ih =>
    intro a0 a2 a4 a5 a6 a7 h hV
    unfold V_X6_findPiece_77 at hV
    refine r_iload hC dX6_findPiece_77 rfl ?_
    refine r_aload hC dX6_findPiece_79 rfl ?_
    obtain ⟨k9, hV⟩ := hV
    refine r_getR hC dX6_findPiece_81 fl_6_299 rf_2_2 lq_2 k9 ?_
    refine r_iload_n hC dX6_findPiece_84 rfl ?_
    obtain ⟨k9, k8, hV⟩ := hV
    refine r_iald (kd := 32) hC dX6_findPiece_85 (by decide) rfl k9 k8 ?_
    refine r_icmp_ge (tgt := 177) hC dX6_findPiece_86 (by decide) (fun k9 => ?_) (fun k9 => ?_)
    · replace hV := hV.1 k9
      refine r_iload hC dX6_findPiece_177 rfl ?_
      refine r_aload hC dX6_findPiece_179 rfl ?_
      obtain ⟨k9, hV⟩ := hV
      refine r_getR hC dX6_findPiece_181 fl_6_224 rf_2_3 lq_2 k9 ?_
      refine r_iload_n hC dX6_findPiece_184 rfl ?_
      obtain ⟨k9, k8, hV⟩ := hV
      refine r_iald (kd := 33) hC dX6_findPiece_185 (by decide) rfl k9 k8 ?_
      refine r_icmp_ge (tgt := 225) hC dX6_findPiece_186 (by decide) (fun k9 => ?_) (fun k9 => ?_)
      · replace hV := hV.1 k9
        refine r_sub (lo1 := [none, none, none, none, none, none, none, none, none]) ⟨Or.inl rfl, ⟨Or.inl rfl, ⟨Or.inl rfl, ⟨Or.inl rfl, ⟨Or.inl rfl, ⟨Or.inl rfl, ⟨Or.inl rfl, ⟨Or.inl rfl, ⟨Or.inl rfl, trivial⟩⟩⟩⟩⟩⟩⟩⟩⟩ ?_
        exact ok_X6_findPiece_225 hC hQ  h hV
      · replace hV := hV.2 k9
        refine r_aload_n hC dX6_findPiece_189 rfl ?_
        obtain ⟨k9, hV⟩ := hV
        refine r_getR hC dX6_findPiece_190 fl_6_37 rf_6_5 lq_6 k9 ?_
        refine r_aload hC dX6_findPiece_193 rfl ?_
        refine r_iload hC dX6_findPiece_195 rfl ?_
        obtain ⟨k9, hV⟩ := hV
        refine r_callV (ci := 2) (As := [.int a5]) hC dX6_findPiece_197 rfl cf_X2_gapWidth ml_6_227 im_X2_gapWidth sl_X2_gapWidth lq_2 rfl rfl k9 rfl ⟨(Nat.le_of_ble_eq_true rfl), (Nat.le_of_ble_eq_true rfl), (Nat.le_of_ble_eq_true rfl), (Nat.le_of_ble_eq_true rfl)⟩ (csR cs0) (Nat.le_of_ble_eq_true rfl) (con_X2_gapWidth a4 a5 h _ hV) rfl (kI (k := 0) (n := 0) (fun r1 h1 hV => ?_))
        obtain ⟨k9, hV⟩ := hV
        refine r_callV (ci := 4) (As := [.int r1]) hC dX6_findPiece_200 rfl cf_X4_fill ml_6_268 im_X4_fill sl_X4_fill lq_4 rfl rfl k9 rfl ⟨(Nat.le_of_ble_eq_true rfl), (Nat.le_of_ble_eq_true rfl), (Nat.le_of_ble_eq_true rfl), (Nat.le_of_ble_eq_true rfl)⟩ cs0 (Nat.le_of_ble_eq_true rfl) (con_X4_fill (hR h a0 5) r1 h1 _ hV) rfl (kV (k := 0) (n := 0) (fun h2 hV => ?_))
        refine r_iload hC dX6_findPiece_203 rfl ?_
        refine r_aload_n hC dX6_findPiece_205 rfl ?_
        obtain ⟨k9, hV⟩ := hV
        refine r_getR hC dX6_findPiece_206 fl_6_37 rf_6_5 lq_6 k9 ?_
        obtain ⟨k9, hV⟩ := hV
        refine r_callV (ci := 4) (As := []) hC dX6_findPiece_209 rfl cf_X4_pieceCount ml_6_309 im_X4_pieceCount sl_X4_pieceCount lq_4 rfl rfl k9 rfl ⟨(Nat.le_of_ble_eq_true rfl), (Nat.le_of_ble_eq_true rfl), (Nat.le_of_ble_eq_true rfl), (Nat.le_of_ble_eq_true rfl)⟩ (csI cs0) (Nat.le_of_ble_eq_true rfl) (con_X4_pieceCount (hR h2 a0 5) h2 _ hV) rfl (kI (k := 0) (n := 0) (fun r2 h3 hV => ?_))
        refine r_icmp_ge (tgt := 225) hC dX6_findPiece_212 (by decide) (fun k9 => ?_) (fun k9 => ?_)
        · replace hV := hV.1 k9
          refine r_sub (lo1 := [none, none, none, none, none, none, none, none, none]) ⟨Or.inl rfl, ⟨Or.inl rfl, ⟨Or.inl rfl, ⟨Or.inl rfl, ⟨Or.inl rfl, ⟨Or.inl rfl, ⟨Or.inl rfl, ⟨Or.inl rfl, ⟨Or.inl rfl, trivial⟩⟩⟩⟩⟩⟩⟩⟩⟩ ?_
          exact ok_X6_findPiece_225 hC hQ  h3 hV
        · replace hV := hV.2 k9
          refine r_aload_n hC dX6_findPiece_215 rfl ?_
          obtain ⟨k9, hV⟩ := hV
          refine r_getR hC dX6_findPiece_216 fl_6_37 rf_6_5 lq_6 k9 ?_
          refine r_iload hC dX6_findPiece_219 rfl ?_
          obtain ⟨k9, hV⟩ := hV
          refine r_callV (ci := 4) (As := [.int a6]) hC dX6_findPiece_221 rfl cf_X4_digitAt ml_6_312 im_X4_digitAt sl_X4_digitAt lq_4 rfl rfl k9 rfl ⟨(Nat.le_of_ble_eq_true rfl), (Nat.le_of_ble_eq_true rfl), (Nat.le_of_ble_eq_true rfl), (Nat.le_of_ble_eq_true rfl)⟩ cs0 (Nat.le_of_ble_eq_true rfl) (con_X4_digitAt (hR h3 a0 5) a6 h3 _ hV) rfl (kI (k := 0) (n := 0) (fun r3 h4 hV => ?_))
          exact r_iret hC hQ dX6_findPiece_224 (Nat.le_of_ble_eq_true rfl) (Nat.le_of_ble_eq_true rfl) ⟨_, rfl, hV⟩
    · replace hV := hV.2 k9
      refine r_aload hC dX6_findPiece_89 rfl ?_
      refine r_iload hC dX6_findPiece_91 rfl ?_
      obtain ⟨k9, hV⟩ := hV
      refine r_callV (ci := 2) (As := [.int a7]) hC dX6_findPiece_93 rfl cf_X2_signAt ml_6_302 im_X2_signAt sl_X2_signAt lq_2 rfl rfl k9 rfl ⟨(Nat.le_of_ble_eq_true rfl), (Nat.le_of_ble_eq_true rfl), (Nat.le_of_ble_eq_true rfl), (Nat.le_of_ble_eq_true rfl)⟩ cs0 (Nat.le_of_ble_eq_true rfl) (con_X2_signAt a4 a7 h _ hV) rfl (kI (k := 0) (n := 0) (fun r1 h1 hV => ?_))
      refine r_istore (lo1 := [some (rv a0), none, some (.int a2), none, some (rv a4), some (.int a5), some (.int a6), some (.int a7), some (.int r1)]) hC dX6_findPiece_96 (Nat.le_of_ble_eq_true rfl) (pvI rfl) rfl ?_
      refine r_iload hC dX6_findPiece_98 rfl ?_
      refine r_callS (As := [.int r1]) hC dX6_findPiece_100 rfl cf_X6_isLetter ml_6_306 st_X6_isLetter rfl ⟨(Nat.le_of_ble_eq_true rfl), (Nat.le_of_ble_eq_true rfl), (Nat.le_of_ble_eq_true rfl), (Nat.le_of_ble_eq_true rfl)⟩ cs0 (Nat.le_of_ble_eq_true rfl) (con_X6_isLetter r1 h1 _ hV) rfl (kI (k := 0) (n := 0) (fun r2 h2 hV => ?_))
      refine r_if_eq (tgt := 120) hC dX6_findPiece_103 (by decide) (fun k9 => ?_) (fun k9 => ?_)
      · replace hV := hV.1 k9
        refine r_aload_n hC dX6_findPiece_120 rfl ?_
        obtain ⟨k9, hV⟩ := hV
        refine r_getR hC dX6_findPiece_121 fl_6_37 rf_6_5 lq_6 k9 ?_
        refine r_aload hC dX6_findPiece_124 rfl ?_
        refine r_iload hC dX6_findPiece_126 rfl ?_
        obtain ⟨k9, hV⟩ := hV
        refine r_callV (ci := 2) (As := [.int a5]) hC dX6_findPiece_128 rfl cf_X2_gapWidth ml_6_227 im_X2_gapWidth sl_X2_gapWidth lq_2 rfl rfl k9 rfl ⟨(Nat.le_of_ble_eq_true rfl), (Nat.le_of_ble_eq_true rfl), (Nat.le_of_ble_eq_true rfl), (Nat.le_of_ble_eq_true rfl)⟩ (csR cs0) (Nat.le_of_ble_eq_true rfl) (con_X2_gapWidth a4 a5 h2 _ hV) rfl (kI (k := 0) (n := 0) (fun r3 h3 hV => ?_))
        obtain ⟨k9, hV⟩ := hV
        refine r_callV (ci := 4) (As := [.int r3]) hC dX6_findPiece_131 rfl cf_X4_fill ml_6_268 im_X4_fill sl_X4_fill lq_4 rfl rfl k9 rfl ⟨(Nat.le_of_ble_eq_true rfl), (Nat.le_of_ble_eq_true rfl), (Nat.le_of_ble_eq_true rfl), (Nat.le_of_ble_eq_true rfl)⟩ cs0 (Nat.le_of_ble_eq_true rfl) (con_X4_fill (hR h2 a0 5) r3 h3 _ hV) rfl (kV (k := 0) (n := 0) (fun h4 hV => ?_))
        refine r_iload hC dX6_findPiece_134 rfl ?_
        refine r_aload_n hC dX6_findPiece_136 rfl ?_
        obtain ⟨k9, hV⟩ := hV
        refine r_getR hC dX6_findPiece_137 fl_6_37 rf_6_5 lq_6 k9 ?_
        obtain ⟨k9, hV⟩ := hV
        refine r_callV (ci := 4) (As := []) hC dX6_findPiece_140 rfl cf_X4_pieceCount ml_6_309 im_X4_pieceCount sl_X4_pieceCount lq_4 rfl rfl k9 rfl ⟨(Nat.le_of_ble_eq_true rfl), (Nat.le_of_ble_eq_true rfl), (Nat.le_of_ble_eq_true rfl), (Nat.le_of_ble_eq_true rfl)⟩ (csI cs0) (Nat.le_of_ble_eq_true rfl) (con_X4_pieceCount (hR h4 a0 5) h4 _ hV) rfl (kI (k := 0) (n := 0) (fun r4 h5 hV => ?_))
        refine r_icmp_ge (tgt := 156) hC dX6_findPiece_143 (by decide) (fun k9 => ?_) (fun k9 => ?_)
        · replace hV := hV.1 k9
          refine r_iload hC dX6_findPiece_156 rfl ?_
          refine r_aload_n hC dX6_findPiece_158 rfl ?_
          obtain ⟨k9, hV⟩ := hV
          refine r_getR hC dX6_findPiece_159 fl_6_37 rf_6_5 lq_6 k9 ?_
          obtain ⟨k9, hV⟩ := hV
          refine r_callV (ci := 4) (As := []) hC dX6_findPiece_162 rfl cf_X4_pieceCount ml_6_309 im_X4_pieceCount sl_X4_pieceCount lq_4 rfl rfl k9 rfl ⟨(Nat.le_of_ble_eq_true rfl), (Nat.le_of_ble_eq_true rfl), (Nat.le_of_ble_eq_true rfl), (Nat.le_of_ble_eq_true rfl)⟩ (csI cs0) (Nat.le_of_ble_eq_true rfl) (con_X4_pieceCount (hR h5 a0 5) h5 _ hV) rfl (kI (k := 0) (n := 0) (fun r5 h6 hV => ?_))
          refine r_isub hC dX6_findPiece_165 ?_
          refine r_istore (lo1 := [some (rv a0), none, some (.int a2), none, some (rv a4), some (.int a5), some (.int (a6 - r5)), some (.int a7), some (.int r1)]) hC dX6_findPiece_166 (Nat.le_of_ble_eq_true rfl) (pvI rfl) rfl ?_
          refine r_iinc (v := 1) (lo1 := [some (rv a0), none, some (.int a2), none, some (rv a4), some (.int (a5 + 1)), some (.int (a6 - r5)), some (.int a7), some (.int r1)]) hC dX6_findPiece_168 rfl (by decide) (pvR rfl) rfl ?_
          refine r_sub (lo1 := [some (rv a0), none, some (.int a2), none, some (rv a4), some (.int (a5 + 1)), some (.int (a6 - r5)), some (.int a7), none]) ⟨Or.inr rfl, ⟨Or.inl rfl, ⟨Or.inr rfl, ⟨Or.inl rfl, ⟨Or.inr rfl, ⟨Or.inr rfl, ⟨Or.inr rfl, ⟨Or.inr rfl, ⟨Or.inl rfl, trivial⟩⟩⟩⟩⟩⟩⟩⟩⟩ ?_
          exact ok_X6_findPiece_171 hC hQ ih a0 a2 a4 (a5 + 1) (a6 - r5) a7 h6 hV
        · replace hV := hV.2 k9
          refine r_aload_n hC dX6_findPiece_146 rfl ?_
          obtain ⟨k9, hV⟩ := hV
          refine r_getR hC dX6_findPiece_147 fl_6_37 rf_6_5 lq_6 k9 ?_
          refine r_iload hC dX6_findPiece_150 rfl ?_
          obtain ⟨k9, hV⟩ := hV
          refine r_callV (ci := 4) (As := [.int a6]) hC dX6_findPiece_152 rfl cf_X4_digitAt ml_6_312 im_X4_digitAt sl_X4_digitAt lq_4 rfl rfl k9 rfl ⟨(Nat.le_of_ble_eq_true rfl), (Nat.le_of_ble_eq_true rfl), (Nat.le_of_ble_eq_true rfl), (Nat.le_of_ble_eq_true rfl)⟩ cs0 (Nat.le_of_ble_eq_true rfl) (con_X4_digitAt (hR h5 a0 5) a6 h5 _ hV) rfl (kI (k := 0) (n := 0) (fun r5 h6 hV => ?_))
          exact r_iret hC hQ dX6_findPiece_155 (Nat.le_of_ble_eq_true rfl) (Nat.le_of_ble_eq_true rfl) ⟨_, rfl, hV⟩
      · replace hV := hV.2 k9
        refine r_iload hC dX6_findPiece_106 rfl ?_
        refine r_if_ne (tgt := 114) hC dX6_findPiece_108 (by decide) (fun k9 => ?_) (fun k9 => ?_)
        · replace hV := hV.1 k9
          refine r_iinc (v := (-1)) (lo1 := [some (rv a0), none, some (.int a2), none, some (rv a4), some (.int a5), some (.int (a6 + (-1))), some (.int a7), some (.int r1)]) hC dX6_findPiece_114 rfl (by decide) (pvI rfl) rfl ?_
          refine r_goto (tgt := 171) hC dX6_findPiece_117 (by decide) ?_
          refine r_sub (lo1 := [some (rv a0), none, some (.int a2), none, some (rv a4), some (.int a5), some (.int (a6 + (-1))), some (.int a7), none]) ⟨Or.inr rfl, ⟨Or.inl rfl, ⟨Or.inr rfl, ⟨Or.inl rfl, ⟨Or.inr rfl, ⟨Or.inr rfl, ⟨Or.inr rfl, ⟨Or.inr rfl, ⟨Or.inl rfl, trivial⟩⟩⟩⟩⟩⟩⟩⟩⟩ ?_
          exact ok_X6_findPiece_171 hC hQ ih a0 a2 a4 a5 (a6 + (-1)) a7 h2 hV
        · replace hV := hV.2 k9
          refine r_iload hC dX6_findPiece_111 rfl ?_
          exact r_iret hC hQ dX6_findPiece_113 (Nat.le_of_ble_eq_true rfl) (Nat.le_of_ble_eq_true rfl) ⟨_, rfl, hV⟩
set_option maxRecDepth 100000 in
set_option maxHeartbeats 4000000 in
theorem ok_X6_findPiece_39 {E : Ev} {X : Xt} {l0 : Launch} {K : Int32 → Hp → Prop} (hC : Cx E X l0 RX6 cX6_findPiece 9 rm_X6_findPiece) (hQ : CQ E X "findPiece" (some .int) rm_X6_findPiece (KI K)) : ∀ (n : Nat) (a0 : Nat) (a2 : Int32) (a3 : Int32) (a4 : Nat) (a5 : Int32) (a6 : Int32) (h : Hp), V_X6_findPiece_39 K n a0 a2 a3 a4 a5 a6 h → WW E X h 0 0 39 [some (rv a0), none, some (.int a2), some (.int a3), some (rv a4), some (.int a5), some (.int a6), none, none] [] := by
  intro n
  induction n with
  | zero => intro a0 a2 a3 a4 a5 a6 h hV; exact hV.elim
  | succ n ih =>
    intro a0 a2 a3 a4 a5 a6 h hV
    unfold V_X6_findPiece_39 at hV
    refine r_iload hC dX6_findPiece_39 rfl ?_
    refine r_iload hC dX6_findPiece_41 rfl ?_
    refine r_icmp_ge (tgt := 66) hC dX6_findPiece_43 (by decide) (fun k9 => ?_) (fun k9 => ?_)
    · replace hV := hV.1 k9
      refine r_iload_n hC dX6_findPiece_66 rfl ?_
      refine r_istore (lo1 := [some (rv a0), none, some (.int a2), some (.int a3), some (rv a4), some (.int a5), some (.int a3), none, none]) hC dX6_findPiece_67 (Nat.le_of_ble_eq_true rfl) (pvI rfl) rfl ?_
      refine r_aload hC dX6_findPiece_69 rfl ?_
      refine r_iload_n hC dX6_findPiece_71 rfl ?_
      obtain ⟨k9, hV⟩ := hV
      refine r_callV (ci := 2) (As := [.int a2]) hC dX6_findPiece_72 rfl cf_X2_lineStart ml_6_296 im_X2_lineStart sl_X2_lineStart lq_2 rfl rfl k9 rfl ⟨(Nat.le_of_ble_eq_true rfl), (Nat.le_of_ble_eq_true rfl), (Nat.le_of_ble_eq_true rfl), (Nat.le_of_ble_eq_true rfl)⟩ cs0 (Nat.le_of_ble_eq_true rfl) (con_X2_lineStart a4 a2 h _ hV) rfl (kI (k := 0) (n := 0) (fun r1 h1 hV => ?_))
      refine r_istore (lo1 := [some (rv a0), none, some (.int a2), some (.int a3), some (rv a4), some (.int a5), some (.int a3), some (.int r1), none]) hC dX6_findPiece_75 (Nat.le_of_ble_eq_true rfl) (pvI rfl) rfl ?_
      refine r_sub (lo1 := [some (rv a0), none, some (.int a2), none, some (rv a4), some (.int a5), some (.int a3), some (.int r1), none]) ⟨Or.inr rfl, ⟨Or.inl rfl, ⟨Or.inr rfl, ⟨Or.inl rfl, ⟨Or.inr rfl, ⟨Or.inr rfl, ⟨Or.inr rfl, ⟨Or.inr rfl, ⟨Or.inl rfl, trivial⟩⟩⟩⟩⟩⟩⟩⟩⟩ ?_
      obtain ⟨n9, hV⟩ := hV
      exact ok_X6_findPiece_77 hC hQ n9 a0 a2 a4 a5 a3 r1 h1 hV
    · replace hV := hV.2 k9
      refine r_aload_n hC dX6_findPiece_46 rfl ?_
      obtain ⟨k9, hV⟩ := hV
      refine r_getR hC dX6_findPiece_47 fl_6_37 rf_6_5 lq_6 k9 ?_
      refine r_aload hC dX6_findPiece_50 rfl ?_
      refine r_iload hC dX6_findPiece_52 rfl ?_
      obtain ⟨k9, hV⟩ := hV
      refine r_callV (ci := 2) (As := [.int a6]) hC dX6_findPiece_54 rfl cf_X2_gapWidth ml_6_227 im_X2_gapWidth sl_X2_gapWidth lq_2 rfl rfl k9 rfl ⟨(Nat.le_of_ble_eq_true rfl), (Nat.le_of_ble_eq_true rfl), (Nat.le_of_ble_eq_true rfl), (Nat.le_of_ble_eq_true rfl)⟩ (csR cs0) (Nat.le_of_ble_eq_true rfl) (con_X2_gapWidth a4 a6 h _ hV) rfl (kI (k := 0) (n := 0) (fun r1 h1 hV => ?_))
      obtain ⟨k9, hV⟩ := hV
      refine r_callV (ci := 4) (As := [.int r1]) hC dX6_findPiece_57 rfl cf_X4_fill ml_6_268 im_X4_fill sl_X4_fill lq_4 rfl rfl k9 rfl ⟨(Nat.le_of_ble_eq_true rfl), (Nat.le_of_ble_eq_true rfl), (Nat.le_of_ble_eq_true rfl), (Nat.le_of_ble_eq_true rfl)⟩ cs0 (Nat.le_of_ble_eq_true rfl) (con_X4_fill (hR h a0 5) r1 h1 _ hV) rfl (kV (k := 0) (n := 0) (fun h2 hV => ?_))
      refine r_iinc (v := 1) (lo1 := [some (rv a0), none, some (.int a2), some (.int a3), some (rv a4), some (.int a5), some (.int (a6 + 1)), none, none]) hC dX6_findPiece_60 rfl (by decide) (pvI rfl) rfl ?_
      refine r_goto (tgt := 39) hC dX6_findPiece_63 (by decide) ?_
      exact ih a0 a2 a3 a4 a5 (a6 + 1) h2 hV
set_option maxRecDepth 100000 in
set_option maxHeartbeats 4000000 in
theorem ok_X6_findPiece_0 {E : Ev} {X : Xt} {l0 : Launch} {K : Int32 → Hp → Prop} (hC : Cx E X l0 RX6 cX6_findPiece 9 rm_X6_findPiece) (hQ : CQ E X "findPiece" (some .int) rm_X6_findPiece (KI K)) (a0 : Nat) (a1 : Nat) (a2 : Int32) (a3 : Int32) (h : Hp) (hV : V_X6_findPiece a0 a1 a2 a3 h K) : WW E X h 0 0 0 [some (rv a0), some (rv a1), some (.int a2), some (.int a3), none, none, none, none, none] [] := by
  unfold V_X6_findPiece at hV
  refine r_aload_n hC dX6_findPiece_0 rfl ?_
  obtain ⟨k9, hV⟩ := hV
  refine r_getR hC dX6_findPiece_1 fl_6_152 rf_1_0 lq_1 k9 ?_
  obtain ⟨k9, hV⟩ := hV
  refine r_getR hC dX6_findPiece_4 fl_6_202 rf_3_3 lq_3 k9 ?_
  refine r_astore (lo1 := [some (rv a0), some (rv a1), some (.int a2), some (.int a3), some (rv (hR h (hR h a1 0) 3)), none, none, none, none]) hC dX6_findPiece_7 (Nat.le_of_ble_eq_true rfl) (pvI rfl) rfl ?_
  refine r_aload_n hC dX6_findPiece_9 rfl ?_
  obtain ⟨k9, hV⟩ := hV
  refine r_getR hC dX6_findPiece_10 fl_6_37 rf_6_5 lq_6 k9 ?_
  refine r_aload_n hC dX6_findPiece_13 rfl ?_
  refine r_bipush (v := 26) hC dX6_findPiece_14 (by decide) ?_
  obtain ⟨k9, hV⟩ := hV
  refine r_callV (ci := 1) (As := [.int 26]) hC dX6_findPiece_16 rfl cf_X1_takenInAll ml_6_258 im_X1_takenInAll sl_X1_takenInAll lq_1 rfl rfl k9 rfl ⟨(Nat.le_of_ble_eq_true rfl), (Nat.le_of_ble_eq_true rfl), (Nat.le_of_ble_eq_true rfl), (Nat.le_of_ble_eq_true rfl)⟩ (csR cs0) (Nat.le_of_ble_eq_true rfl) (con_X1_takenInAll a1 26 h _ hV) rfl (kI (k := 0) (n := 0) (fun r1 h1 hV => ?_))
  refine r_aload_n hC dX6_findPiece_19 rfl ?_
  refine r_bipush (v := 27) hC dX6_findPiece_20 (by decide) ?_
  obtain ⟨k9, hV⟩ := hV
  refine r_callV (ci := 1) (As := [.int 27]) hC dX6_findPiece_22 rfl cf_X1_takenInAll ml_6_258 im_X1_takenInAll sl_X1_takenInAll lq_1 rfl rfl k9 rfl ⟨(Nat.le_of_ble_eq_true rfl), (Nat.le_of_ble_eq_true rfl), (Nat.le_of_ble_eq_true rfl), (Nat.le_of_ble_eq_true rfl)⟩ (csI (csR cs0)) (Nat.le_of_ble_eq_true rfl) (con_X1_takenInAll a1 27 h1 _ hV) rfl (kI (k := 0) (n := 0) (fun r2 h2 hV => ?_))
  obtain ⟨k9, hV⟩ := hV
  refine r_callV (ci := 4) (As := [.int r1, .int r2]) hC dX6_findPiece_25 rfl cf_X4_begin ml_6_264 im_X4_begin sl_X4_begin lq_4 rfl rfl k9 rfl ⟨(Nat.le_of_ble_eq_true rfl), (Nat.le_of_ble_eq_true rfl), (Nat.le_of_ble_eq_true rfl), (Nat.le_of_ble_eq_true rfl)⟩ cs0 (Nat.le_of_ble_eq_true rfl) (con_X4_begin (hR h a0 5) r1 r2 h2 _ hV) rfl (kV (k := 0) (n := 0) (fun h3 hV => ?_))
  refine r_aload hC dX6_findPiece_28 rfl ?_
  refine r_iload_n hC dX6_findPiece_30 rfl ?_
  obtain ⟨k9, hV⟩ := hV
  refine r_callV (ci := 2) (As := [.int a2]) hC dX6_findPiece_31 rfl cf_X2_firstGap ml_6_221 im_X2_firstGap sl_X2_firstGap lq_2 rfl rfl k9 rfl ⟨(Nat.le_of_ble_eq_true rfl), (Nat.le_of_ble_eq_true rfl), (Nat.le_of_ble_eq_true rfl), (Nat.le_of_ble_eq_true rfl)⟩ cs0 (Nat.le_of_ble_eq_true rfl) (con_X2_firstGap (hR h (hR h a1 0) 3) a2 h3 _ hV) rfl (kI (k := 0) (n := 0) (fun r3 h4 hV => ?_))
  refine r_istore (lo1 := [some (rv a0), some (rv a1), some (.int a2), some (.int a3), some (rv (hR h (hR h a1 0) 3)), some (.int r3), none, none, none]) hC dX6_findPiece_34 (Nat.le_of_ble_eq_true rfl) (pvR rfl) rfl ?_
  refine r_iconst (v := 0) hC dX6_findPiece_36 (by decide) ?_
  refine r_istore (lo1 := [some (rv a0), some (rv a1), some (.int a2), some (.int a3), some (rv (hR h (hR h a1 0) 3)), some (.int r3), some (.int 0), none, none]) hC dX6_findPiece_37 (Nat.le_of_ble_eq_true rfl) (pvI rfl) rfl ?_
  refine r_sub (lo1 := [some (rv a0), none, some (.int a2), some (.int a3), some (rv (hR h (hR h a1 0) 3)), some (.int r3), some (.int 0), none, none]) ⟨Or.inr rfl, ⟨Or.inl rfl, ⟨Or.inr rfl, ⟨Or.inr rfl, ⟨Or.inr rfl, ⟨Or.inr rfl, ⟨Or.inr rfl, ⟨Or.inl rfl, ⟨Or.inl rfl, trivial⟩⟩⟩⟩⟩⟩⟩⟩⟩ ?_
  obtain ⟨n9, hV⟩ := hV
  exact ok_X6_findPiece_39 hC hQ n9 a0 a2 a3 (hR h (hR h a1 0) 3) r3 0 h4 hV
set_option maxRecDepth 100000 in
set_option maxHeartbeats 4000000 in
theorem con_X6_findPiece {E : Ev} {l0 : Launch} (a0 : Nat) (a1 : Nat) (a2 : Int32) (a3 : Int32) (h : Hp) (K : Int32 → Hp → Prop) (hV : V_X6_findPiece a0 a1 a2 a3 h K) : Con E l0 yX6_findPiece cX6_findPiece 9 (some .int) rm_X6_findPiece [rv a0, rv a1, .int a2, .int a3] h (KI K) := by
  refine Con.of (by decide +kernel) (cat_R (cat_R (cat_I (cat_I cat_nil)))) (Nat.le_of_ble_eq_true rfl) (fun X hC hQ => ?_)
  refine r_sub (lo1 := [some (rv a0), some (rv a1), some (.int a2), some (.int a3), none, none, none, none, none]) (show lsub [some (rv a0), some (rv a1), some (.int a2), some (.int a3), none, none, none, none, none] _ from ⟨Or.inr rfl, ⟨Or.inr rfl, ⟨Or.inr rfl, ⟨Or.inr rfl, ⟨Or.inr rfl, ⟨Or.inr rfl, ⟨Or.inr rfl, ⟨Or.inr rfl, ⟨Or.inr rfl, trivial⟩⟩⟩⟩⟩⟩⟩⟩⟩) ?_
  exact ok_X6_findPiece_0 hC hQ a0 a1 a2 a3 h hV
theorem dX6_gap_0 : decode cX6_gap 0 = .ok (.aload_n 0, 1) := by decide +kernel
theorem dX6_gap_1 : decode cX6_gap 1 = .ok (.getfield 19, 3) := by decide +kernel
theorem dX6_gap_4 : decode cX6_gap 4 = .ok (.iload_n 1, 1) := by decide +kernel
theorem dX6_gap_5 : decode cX6_gap 5 = .ok (.invokevirtual 138, 3) := by decide +kernel
theorem dX6_gap_8 : decode cX6_gap 8 = .ok (.astore 4, 2) := by decide +kernel
theorem dX6_gap_10 : decode cX6_gap 10 = .ok (.aload 4, 2) := by decide +kernel
theorem dX6_gap_12 : decode cX6_gap 12 = .ok (.ifnonnull 5, 3) := by decide +kernel
theorem dX6_gap_15 : decode cX6_gap 15 = .ok (.iconst (-1), 1) := by decide +kernel
theorem dX6_gap_16 : decode cX6_gap 16 = .ok (.ireturn, 1) := by decide +kernel
theorem dX6_gap_17 : decode cX6_gap 17 = .ok (.aload 4, 2) := by decide +kernel
theorem dX6_gap_19 : decode cX6_gap 19 = .ok (.getfield 152, 3) := by decide +kernel
theorem dX6_gap_22 : decode cX6_gap 22 = .ok (.getfield 202, 3) := by decide +kernel
theorem dX6_gap_25 : decode cX6_gap 25 = .ok (.astore 5, 2) := by decide +kernel
theorem dX6_gap_27 : decode cX6_gap 27 = .ok (.aload 5, 2) := by decide +kernel
theorem dX6_gap_29 : decode cX6_gap 29 = .ok (.iload_n 2, 1) := by decide +kernel
theorem dX6_gap_30 : decode cX6_gap 30 = .ok (.invokevirtual 218, 3) := by decide +kernel
theorem dX6_gap_33 : decode cX6_gap 33 = .ok (.ifCond .ne 6, 3) := by decide +kernel
theorem dX6_gap_36 : decode cX6_gap 36 = .ok (.bipush (-5), 2) := by decide +kernel
theorem dX6_gap_38 : decode cX6_gap 38 = .ok (.ireturn, 1) := by decide +kernel
theorem dX6_gap_39 : decode cX6_gap 39 = .ok (.aload 5, 2) := by decide +kernel
theorem dX6_gap_41 : decode cX6_gap 41 = .ok (.iload_n 2, 1) := by decide +kernel
theorem dX6_gap_42 : decode cX6_gap 42 = .ok (.invokevirtual 221, 3) := by decide +kernel
theorem dX6_gap_45 : decode cX6_gap 45 = .ok (.istore 6, 2) := by decide +kernel
theorem dX6_gap_47 : decode cX6_gap 47 = .ok (.iload_n 3, 1) := by decide +kernel
theorem dX6_gap_48 : decode cX6_gap 48 = .ok (.ifCond .lt 17, 3) := by decide +kernel
theorem dX6_gap_51 : decode cX6_gap 51 = .ok (.iload_n 3, 1) := by decide +kernel
theorem dX6_gap_52 : decode cX6_gap 52 = .ok (.aload 5, 2) := by decide +kernel
theorem dX6_gap_54 : decode cX6_gap 54 = .ok (.getfield 224, 3) := by decide +kernel
theorem dX6_gap_57 : decode cX6_gap 57 = .ok (.iload_n 2, 1) := by decide +kernel
theorem dX6_gap_58 : decode cX6_gap 58 = .ok (.iaload, 1) := by decide +kernel
theorem dX6_gap_59 : decode cX6_gap 59 = .ok (.iload 6, 2) := by decide +kernel
theorem dX6_gap_61 : decode cX6_gap 61 = .ok (.isub, 1) := by decide +kernel
theorem dX6_gap_62 : decode cX6_gap 62 = .ok (.if_icmp .lt 6, 3) := by decide +kernel
theorem dX6_gap_65 : decode cX6_gap 65 = .ok (.bipush (-5), 2) := by decide +kernel
theorem dX6_gap_67 : decode cX6_gap 67 = .ok (.ireturn, 1) := by decide +kernel
theorem dX6_gap_68 : decode cX6_gap 68 = .ok (.aload 5, 2) := by decide +kernel
theorem dX6_gap_70 : decode cX6_gap 70 = .ok (.iload 6, 2) := by decide +kernel
theorem dX6_gap_72 : decode cX6_gap 72 = .ok (.iload_n 3, 1) := by decide +kernel
theorem dX6_gap_73 : decode cX6_gap 73 = .ok (.iadd, 1) := by decide +kernel
theorem dX6_gap_74 : decode cX6_gap 74 = .ok (.invokevirtual 227, 3) := by decide +kernel
theorem dX6_gap_77 : decode cX6_gap 77 = .ok (.ireturn, 1) := by decide +kernel
def rm_X6_gap : Room := { frames := 1, cells := 0, slots := 0, locals := 21 }
set_option maxRecDepth 100000 in
set_option maxHeartbeats 4000000 in
theorem ok_X6_gap_65 {E : Ev} {X : Xt} {l0 : Launch} {K : Int32 → Hp → Prop} (hC : Cx E X l0 RX6 cX6_gap 7 rm_X6_gap) (hQ : CQ E X "gap" (some .int) rm_X6_gap (KI K)) (h : Hp) (hV : V_X6_gap_65 K  h) : WW E X h 0 0 65 [none, none, none, none, none, none, none] [] := by
  unfold V_X6_gap_65 at hV
  refine r_bipush (v := (-5)) hC dX6_gap_65 (by decide) ?_
  exact r_iret hC hQ dX6_gap_67 (Nat.le_of_ble_eq_true rfl) (Nat.le_of_ble_eq_true rfl) ⟨_, rfl, hV⟩
set_option maxRecDepth 100000 in
set_option maxHeartbeats 4000000 in
theorem ok_X6_gap_0 {E : Ev} {X : Xt} {l0 : Launch} {K : Int32 → Hp → Prop} (hC : Cx E X l0 RX6 cX6_gap 7 rm_X6_gap) (hQ : CQ E X "gap" (some .int) rm_X6_gap (KI K)) (a0 : Nat) (a1 : Int32) (a2 : Int32) (a3 : Int32) (h : Hp) (hV : V_X6_gap a0 a1 a2 a3 h K) : WW E X h 0 0 0 [some (rv a0), some (.int a1), some (.int a2), some (.int a3), none, none, none] [] := by
  unfold V_X6_gap at hV
  refine r_aload_n hC dX6_gap_0 rfl ?_
  obtain ⟨k9, hV⟩ := hV
  refine r_getR hC dX6_gap_1 fl_6_19 rf_6_1 lq_6 k9 ?_
  refine r_iload_n hC dX6_gap_4 rfl ?_
  obtain ⟨k9, hV⟩ := hV
  refine r_callV (ci := 5) (As := [.int a1]) hC dX6_gap_5 rfl cf_X5_findJob ml_6_138 im_X5_findJob sl_X5_findJob lq_5 rfl rfl k9 rfl ⟨(Nat.le_of_ble_eq_true rfl), (Nat.le_of_ble_eq_true rfl), (Nat.le_of_ble_eq_true rfl), (Nat.le_of_ble_eq_true rfl)⟩ cs0 (Nat.le_of_ble_eq_true rfl) (con_X5_findJob (hR h a0 1) a1 h _ hV) rfl (kR (k := 0) (n := 0) (fun r1 h1 hV => ?_))
  refine r_astore (lo1 := [some (rv a0), some (.int a1), some (.int a2), some (.int a3), some (rv r1), none, none]) hC dX6_gap_8 (Nat.le_of_ble_eq_true rfl) (pvI rfl) rfl ?_
  refine r_aload hC dX6_gap_10 rfl ?_
  refine r_ifnonnull (tgt := 17) hC dX6_gap_12 (by decide) (fun k9 => ?_) (fun k9 => ?_)
  · replace hV := hV.1 k9
    refine r_aload hC dX6_gap_17 rfl ?_
    obtain ⟨k9, hV⟩ := hV
    refine r_getR hC dX6_gap_19 fl_6_152 rf_1_0 lq_1 k9 ?_
    obtain ⟨k9, hV⟩ := hV
    refine r_getR hC dX6_gap_22 fl_6_202 rf_3_3 lq_3 k9 ?_
    refine r_astore (lo1 := [some (rv a0), some (.int a1), some (.int a2), some (.int a3), some (rv r1), some (rv (hR h1 (hR h1 r1 0) 3)), none]) hC dX6_gap_25 (Nat.le_of_ble_eq_true rfl) (pvR rfl) rfl ?_
    refine r_aload hC dX6_gap_27 rfl ?_
    refine r_iload_n hC dX6_gap_29 rfl ?_
    obtain ⟨k9, hV⟩ := hV
    refine r_callV (ci := 2) (As := [.int a2]) hC dX6_gap_30 rfl cf_X2_hasLine ml_6_218 im_X2_hasLine sl_X2_hasLine lq_2 rfl rfl k9 rfl ⟨(Nat.le_of_ble_eq_true rfl), (Nat.le_of_ble_eq_true rfl), (Nat.le_of_ble_eq_true rfl), (Nat.le_of_ble_eq_true rfl)⟩ cs0 (Nat.le_of_ble_eq_true rfl) (con_X2_hasLine (hR h1 (hR h1 r1 0) 3) a2 h1 _ hV) rfl (kI (k := 0) (n := 0) (fun r2 h2 hV => ?_))
    refine r_if_ne (tgt := 39) hC dX6_gap_33 (by decide) (fun k9 => ?_) (fun k9 => ?_)
    · replace hV := hV.1 k9
      refine r_aload hC dX6_gap_39 rfl ?_
      refine r_iload_n hC dX6_gap_41 rfl ?_
      obtain ⟨k9, hV⟩ := hV
      refine r_callV (ci := 2) (As := [.int a2]) hC dX6_gap_42 rfl cf_X2_firstGap ml_6_221 im_X2_firstGap sl_X2_firstGap lq_2 rfl rfl k9 rfl ⟨(Nat.le_of_ble_eq_true rfl), (Nat.le_of_ble_eq_true rfl), (Nat.le_of_ble_eq_true rfl), (Nat.le_of_ble_eq_true rfl)⟩ cs0 (Nat.le_of_ble_eq_true rfl) (con_X2_firstGap (hR h1 (hR h1 r1 0) 3) a2 h2 _ hV) rfl (kI (k := 0) (n := 0) (fun r3 h3 hV => ?_))
      refine r_istore (lo1 := [some (rv a0), some (.int a1), some (.int a2), some (.int a3), some (rv r1), some (rv (hR h1 (hR h1 r1 0) 3)), some (.int r3)]) hC dX6_gap_45 (Nat.le_of_ble_eq_true rfl) (pvR rfl) rfl ?_
      refine r_iload_n hC dX6_gap_47 rfl ?_
      refine r_if_lt (tgt := 65) hC dX6_gap_48 (by decide) (fun k9 => ?_) (fun k9 => ?_)
      · replace hV := hV.1 k9
        refine r_sub (lo1 := [none, none, none, none, none, none, none]) ⟨Or.inl rfl, ⟨Or.inl rfl, ⟨Or.inl rfl, ⟨Or.inl rfl, ⟨Or.inl rfl, ⟨Or.inl rfl, ⟨Or.inl rfl, trivial⟩⟩⟩⟩⟩⟩⟩ ?_
        exact ok_X6_gap_65 hC hQ  h3 hV
      · replace hV := hV.2 k9
        refine r_iload_n hC dX6_gap_51 rfl ?_
        refine r_aload hC dX6_gap_52 rfl ?_
        obtain ⟨k9, hV⟩ := hV
        refine r_getR hC dX6_gap_54 fl_6_224 rf_2_3 lq_2 k9 ?_
        refine r_iload_n hC dX6_gap_57 rfl ?_
        obtain ⟨k9, k8, hV⟩ := hV
        refine r_iald (kd := 33) hC dX6_gap_58 (by decide) rfl k9 k8 ?_
        refine r_iload hC dX6_gap_59 rfl ?_
        refine r_isub hC dX6_gap_61 ?_
        refine r_icmp_lt (tgt := 68) hC dX6_gap_62 (by decide) (fun k9 => ?_) (fun k9 => ?_)
        · replace hV := hV.1 k9
          refine r_aload hC dX6_gap_68 rfl ?_
          refine r_iload hC dX6_gap_70 rfl ?_
          refine r_iload_n hC dX6_gap_72 rfl ?_
          refine r_iadd hC dX6_gap_73 ?_
          obtain ⟨k9, hV⟩ := hV
          refine r_callV (ci := 2) (As := [.int (r3 + a3)]) hC dX6_gap_74 rfl cf_X2_gapWidth ml_6_227 im_X2_gapWidth sl_X2_gapWidth lq_2 rfl rfl k9 rfl ⟨(Nat.le_of_ble_eq_true rfl), (Nat.le_of_ble_eq_true rfl), (Nat.le_of_ble_eq_true rfl), (Nat.le_of_ble_eq_true rfl)⟩ cs0 (Nat.le_of_ble_eq_true rfl) (con_X2_gapWidth (hR h1 (hR h1 r1 0) 3) (r3 + a3) h3 _ hV) rfl (kI (k := 0) (n := 0) (fun r4 h4 hV => ?_))
          exact r_iret hC hQ dX6_gap_77 (Nat.le_of_ble_eq_true rfl) (Nat.le_of_ble_eq_true rfl) ⟨_, rfl, hV⟩
        · replace hV := hV.2 k9
          refine r_sub (lo1 := [none, none, none, none, none, none, none]) ⟨Or.inl rfl, ⟨Or.inl rfl, ⟨Or.inl rfl, ⟨Or.inl rfl, ⟨Or.inl rfl, ⟨Or.inl rfl, ⟨Or.inl rfl, trivial⟩⟩⟩⟩⟩⟩⟩ ?_
          exact ok_X6_gap_65 hC hQ  h3 hV
    · replace hV := hV.2 k9
      refine r_bipush (v := (-5)) hC dX6_gap_36 (by decide) ?_
      exact r_iret hC hQ dX6_gap_38 (Nat.le_of_ble_eq_true rfl) (Nat.le_of_ble_eq_true rfl) ⟨_, rfl, hV⟩
  · replace hV := hV.2 k9
    refine r_iconst (v := (-1)) hC dX6_gap_15 (by decide) ?_
    exact r_iret hC hQ dX6_gap_16 (Nat.le_of_ble_eq_true rfl) (Nat.le_of_ble_eq_true rfl) ⟨_, rfl, hV⟩
set_option maxRecDepth 100000 in
set_option maxHeartbeats 4000000 in
theorem con_X6_gap {E : Ev} {l0 : Launch} (a0 : Nat) (a1 : Int32) (a2 : Int32) (a3 : Int32) (h : Hp) (K : Int32 → Hp → Prop) (hV : V_X6_gap a0 a1 a2 a3 h K) : Con E l0 yX6_gap cX6_gap 7 (some .int) rm_X6_gap [rv a0, .int a1, .int a2, .int a3] h (KI K) := by
  refine Con.of (by decide +kernel) (cat_R (cat_I (cat_I (cat_I cat_nil)))) (Nat.le_of_ble_eq_true rfl) (fun X hC hQ => ?_)
  refine r_sub (lo1 := [some (rv a0), some (.int a1), some (.int a2), some (.int a3), none, none, none]) (show lsub [some (rv a0), some (.int a1), some (.int a2), some (.int a3), none, none, none] _ from ⟨Or.inr rfl, ⟨Or.inr rfl, ⟨Or.inr rfl, ⟨Or.inr rfl, ⟨Or.inr rfl, ⟨Or.inr rfl, ⟨Or.inr rfl, trivial⟩⟩⟩⟩⟩⟩⟩) ?_
  exact ok_X6_gap_0 hC hQ a0 a1 a2 a3 h hV
theorem dX6_init_0 : decode cX6_init 0 = .ok (.aload_n 0, 1) := by decide +kernel
theorem dX6_init_1 : decode cX6_init 1 = .ok (.invokespecial 1, 3) := by decide +kernel
theorem dX6_init_4 : decode cX6_init 4 = .ok (.aload_n 0, 1) := by decide +kernel
theorem dX6_init_5 : decode cX6_init 5 = .ok (.new 7, 3) := by decide +kernel
theorem dX6_init_8 : decode cX6_init 8 = .ok (.dup, 1) := by decide +kernel
theorem dX6_init_9 : decode cX6_init 9 = .ok (.invokespecial 9, 3) := by decide +kernel
theorem dX6_init_12 : decode cX6_init 12 = .ok (.putfield 10, 3) := by decide +kernel
theorem dX6_init_15 : decode cX6_init 15 = .ok (.aload_n 0, 1) := by decide +kernel
theorem dX6_init_16 : decode cX6_init 16 = .ok (.new 16, 3) := by decide +kernel
theorem dX6_init_19 : decode cX6_init 19 = .ok (.dup, 1) := by decide +kernel
theorem dX6_init_20 : decode cX6_init 20 = .ok (.invokespecial 18, 3) := by decide +kernel
theorem dX6_init_23 : decode cX6_init 23 = .ok (.putfield 19, 3) := by decide +kernel
theorem dX6_init_26 : decode cX6_init 26 = .ok (.aload_n 0, 1) := by decide +kernel
theorem dX6_init_27 : decode cX6_init 27 = .ok (.iconst 5, 1) := by decide +kernel
theorem dX6_init_28 : decode cX6_init 28 = .ok (.anewarray 16, 3) := by decide +kernel
theorem dX6_init_31 : decode cX6_init 31 = .ok (.putfield 23, 3) := by decide +kernel
theorem dX6_init_34 : decode cX6_init 34 = .ok (.aload_n 0, 1) := by decide +kernel
theorem dX6_init_35 : decode cX6_init 35 = .ok (.iconst 0, 1) := by decide +kernel
theorem dX6_init_36 : decode cX6_init 36 = .ok (.putfield 27, 3) := by decide +kernel
theorem dX6_init_39 : decode cX6_init 39 = .ok (.aload_n 0, 1) := by decide +kernel
theorem dX6_init_40 : decode cX6_init 40 = .ok (.aconst_null, 1) := by decide +kernel
theorem dX6_init_41 : decode cX6_init 41 = .ok (.putfield 31, 3) := by decide +kernel
theorem dX6_init_44 : decode cX6_init 44 = .ok (.aload_n 0, 1) := by decide +kernel
theorem dX6_init_45 : decode cX6_init 45 = .ok (.new 34, 3) := by decide +kernel
theorem dX6_init_48 : decode cX6_init 48 = .ok (.dup, 1) := by decide +kernel
theorem dX6_init_49 : decode cX6_init 49 = .ok (.invokespecial 36, 3) := by decide +kernel
theorem dX6_init_52 : decode cX6_init 52 = .ok (.putfield 37, 3) := by decide +kernel
theorem dX6_init_55 : decode cX6_init 55 = .ok (.aload_n 0, 1) := by decide +kernel
theorem dX6_init_56 : decode cX6_init 56 = .ok (.bipush 29, 2) := by decide +kernel
theorem dX6_init_58 : decode cX6_init 58 = .ok (.newarray .int, 2) := by decide +kernel
theorem dX6_init_60 : decode cX6_init 60 = .ok (.putfield 41, 3) := by decide +kernel
theorem dX6_init_63 : decode cX6_init 63 = .ok (.aload_n 0, 1) := by decide +kernel
theorem dX6_init_64 : decode cX6_init 64 = .ok (.bipush 29, 2) := by decide +kernel
theorem dX6_init_66 : decode cX6_init 66 = .ok (.newarray .int, 2) := by decide +kernel
theorem dX6_init_68 : decode cX6_init 68 = .ok (.putfield 45, 3) := by decide +kernel
theorem dX6_init_71 : decode cX6_init 71 = .ok (.aload_n 0, 1) := by decide +kernel
theorem dX6_init_72 : decode cX6_init 72 = .ok (.bipush 29, 2) := by decide +kernel
theorem dX6_init_74 : decode cX6_init 74 = .ok (.newarray .int, 2) := by decide +kernel
theorem dX6_init_76 : decode cX6_init 76 = .ok (.putfield 48, 3) := by decide +kernel
theorem dX6_init_79 : decode cX6_init 79 = .ok (.return_, 1) := by decide +kernel
def rm_X6_init : Room := { frames := 2, cells := 11, slots := 388, locals := 46 }
set_option maxRecDepth 100000 in
set_option maxHeartbeats 4000000 in
theorem ok_X6_init_0 {E : Ev} {X : Xt} {l0 : Launch} {K : Hp → Prop} (hC : Cx E X l0 RX6 cX6_init 1 rm_X6_init) (hQ : CQ E X "<init>" none rm_X6_init (KV K)) (a0 : Nat) (h : Hp) (hV : V_X6_init a0 h K) : WW E X h 0 0 0 [some (rv a0)] [] := by
  unfold V_X6_init at hV
  refine r_aload_n hC dX6_init_0 rfl ?_
  obtain ⟨k9, hV⟩ := hV
  refine r_obj hC dX6_init_1 rfl ml_6_1 obj_i obj_c k9 cs0 ⟨Nat.le_of_ble_eq_true rfl, Nat.le_of_ble_eq_true rfl⟩ ?_
  refine r_aload_n hC dX6_init_4 rfl ?_
  refine r_new (ci := 0) hC dX6_init_5 kl_6_7 ki_0 kz_0 rfl iw_0 ft_0 df_0 lq_0 ⟨(Nat.le_of_ble_eq_true rfl), (Nat.le_of_ble_eq_true rfl)⟩ (fun q1 k9 k8 => nmH (fun h1 k7 => ?_))
  replace hV := hV q1 k9 k8 h1 k7
  refine r_dup hC dX6_init_8 (rv_cat _) ?_
  obtain ⟨k9, hV⟩ := hV
  refine r_callIN (As := []) hC dX6_init_9 rfl cf_X0_init nl_6_9 rfl im_X0_init k9 rfl ⟨(Nat.le_of_ble_eq_true rfl), (Nat.le_of_ble_eq_true rfl), (Nat.le_of_ble_eq_true rfl), (Nat.le_of_ble_eq_true rfl)⟩ (csR (csR cs0)) (Nat.le_of_ble_eq_true rfl) (con_X0_init q1 h1 _ hV) rfl (kV (k := 2) (n := 62) (fun h2 hV => ?_))
  obtain ⟨k9, hV⟩ := hV
  refine r_putFR hC hQ dX6_init_12 fl_6_10 ft_6 rfl rfl rf_6_0 ty_6_0 lq_6 k9 (nmH (fun h3 k9 => ?_))
  replace hV := hV h3 k9
  refine r_aload_n hC dX6_init_15 rfl ?_
  refine r_new (ci := 5) hC dX6_init_16 kl_6_16 ki_5 kz_5 rfl iw_5 ft_5 df_5 lq_5 ⟨(Nat.le_of_ble_eq_true rfl), (Nat.le_of_ble_eq_true rfl)⟩ (fun q2 k9 k8 => nmH (fun h4 k7 => ?_))
  replace hV := hV q2 k9 k8 h4 k7
  refine r_dup hC dX6_init_19 (rv_cat _) ?_
  obtain ⟨k9, hV⟩ := hV
  refine r_callIN (As := []) hC dX6_init_20 rfl cf_X5_init nl_6_18 rfl im_X5_init k9 rfl ⟨(Nat.le_of_ble_eq_true rfl), (Nat.le_of_ble_eq_true rfl), (Nat.le_of_ble_eq_true rfl), (Nat.le_of_ble_eq_true rfl)⟩ (csR (csR cs0)) (Nat.le_of_ble_eq_true rfl) (con_X5_init q2 h4 _ hV) rfl (kV (k := 6) (n := 288) (fun h5 hV => ?_))
  obtain ⟨k9, hV⟩ := hV
  refine r_putFR hC hQ dX6_init_23 fl_6_19 ft_6 rfl rfl rf_6_1 ty_6_1 lq_6 k9 (nmH (fun h6 k9 => ?_))
  replace hV := hV h6 k9
  refine r_aload_n hC dX6_init_26 rfl ?_
  refine r_iconst (v := 5) hC dX6_init_27 (by decide) ?_
  refine r_anew (kd := 23) (d := 3) (N := 5) hC dX6_init_28 (by decide) rfl (by decide) rfl kl_6_16 (by decide) (by decide) (by decide) ⟨(Nat.le_of_ble_eq_true rfl), (Nat.le_of_ble_eq_true rfl)⟩ (fun q3 k9 k8 => nmH (fun h7 k7 => ?_))
  replace hV := hV q3 k9 k8 h7 k7
  obtain ⟨k9, hV⟩ := hV
  refine r_putFR hC hQ dX6_init_31 fl_6_23 ft_6 rfl rfl rf_6_2 ty_6_2 lq_6 k9 (nmH (fun h8 k9 => ?_))
  replace hV := hV h8 k9
  refine r_aload_n hC dX6_init_34 rfl ?_
  refine r_iconst (v := 0) hC dX6_init_35 (by decide) ?_
  obtain ⟨k9, hV⟩ := hV
  refine r_putI hC dX6_init_36 fl_6_27 ft_6 rfl rf_6_3 ty_6_3 lq_6 k9 (nmH (fun h9 k9 => ?_))
  replace hV := hV h9 k9
  refine r_aload_n hC dX6_init_39 rfl ?_
  refine r_null hC dX6_init_40 ?_
  obtain ⟨k9, hV⟩ := hV
  refine r_putR hC dX6_init_41 fl_6_31 ft_6 rfl rf_6_4 ty_6_4 lq_6 k9 (nmH (fun h10 k9 => ?_))
  replace hV := hV h10 k9
  refine r_aload_n hC dX6_init_44 rfl ?_
  refine r_new (ci := 4) hC dX6_init_45 kl_6_34 ki_4 kz_4 rfl iw_4 ft_4 df_4 lq_4 ⟨(Nat.le_of_ble_eq_true rfl), (Nat.le_of_ble_eq_true rfl)⟩ (fun q4 k9 k8 => nmH (fun h11 k7 => ?_))
  replace hV := hV q4 k9 k8 h11 k7
  refine r_dup hC dX6_init_48 (rv_cat _) ?_
  obtain ⟨k9, hV⟩ := hV
  refine r_callIN (As := []) hC dX6_init_49 rfl cf_X4_init nl_6_36 rfl im_X4_init k9 rfl ⟨(Nat.le_of_ble_eq_true rfl), (Nat.le_of_ble_eq_true rfl), (Nat.le_of_ble_eq_true rfl), (Nat.le_of_ble_eq_true rfl)⟩ (csR (csR cs0)) (Nat.le_of_ble_eq_true rfl) (con_X4_init q4 h11 _ hV) rfl (kV (k := 8) (n := 301) (fun h12 hV => ?_))
  obtain ⟨k9, hV⟩ := hV
  refine r_putFR hC hQ dX6_init_52 fl_6_37 ft_6 rfl rfl rf_6_5 ty_6_5 lq_6 k9 (nmH (fun h13 k9 => ?_))
  replace hV := hV h13 k9
  refine r_aload_n hC dX6_init_55 rfl ?_
  refine r_bipush (v := 29) hC dX6_init_56 (by decide) ?_
  refine r_newarr (kd := 37) (d := 0) (N := 29) hC dX6_init_58 (by decide) rfl (by decide) rfl ka_0 (by decide) (by decide) (by decide) ⟨(Nat.le_of_ble_eq_true rfl), (Nat.le_of_ble_eq_true rfl)⟩ (fun q5 k9 k8 => nmH (fun h14 k7 => ?_))
  replace hV := hV q5 k9 k8 h14 k7
  obtain ⟨k9, hV⟩ := hV
  refine r_putFR hC hQ dX6_init_60 fl_6_41 ft_6 rfl rfl rf_6_6 ty_6_6 lq_6 k9 (nmH (fun h15 k9 => ?_))
  replace hV := hV h15 k9
  refine r_aload_n hC dX6_init_63 rfl ?_
  refine r_bipush (v := 29) hC dX6_init_64 (by decide) ?_
  refine r_newarr (kd := 38) (d := 0) (N := 29) hC dX6_init_66 (by decide) rfl (by decide) rfl ka_0 (by decide) (by decide) (by decide) ⟨(Nat.le_of_ble_eq_true rfl), (Nat.le_of_ble_eq_true rfl)⟩ (fun q6 k9 k8 => nmH (fun h16 k7 => ?_))
  replace hV := hV q6 k9 k8 h16 k7
  obtain ⟨k9, hV⟩ := hV
  refine r_putFR hC hQ dX6_init_68 fl_6_45 ft_6 rfl rfl rf_6_7 ty_6_7 lq_6 k9 (nmH (fun h17 k9 => ?_))
  replace hV := hV h17 k9
  refine r_aload_n hC dX6_init_71 rfl ?_
  refine r_bipush (v := 29) hC dX6_init_72 (by decide) ?_
  refine r_newarr (kd := 39) (d := 0) (N := 29) hC dX6_init_74 (by decide) rfl (by decide) rfl ka_0 (by decide) (by decide) (by decide) ⟨(Nat.le_of_ble_eq_true rfl), (Nat.le_of_ble_eq_true rfl)⟩ (fun q7 k9 k8 => nmH (fun h18 k7 => ?_))
  replace hV := hV q7 k9 k8 h18 k7
  obtain ⟨k9, hV⟩ := hV
  refine r_putFR hC hQ dX6_init_76 fl_6_48 ft_6 rfl rfl rf_6_8 ty_6_8 lq_6 k9 (nmH (fun h19 k9 => ?_))
  replace hV := hV h19 k9
  exact r_vret hC hQ dX6_init_79 (Nat.le_of_ble_eq_true rfl) (Nat.le_of_ble_eq_true rfl) ⟨rfl, hV⟩
set_option maxRecDepth 100000 in
set_option maxHeartbeats 4000000 in
theorem con_X6_init {E : Ev} {l0 : Launch} (a0 : Nat) (h : Hp) (K : Hp → Prop) (hV : V_X6_init a0 h K) : Con E l0 yX6_init cX6_init 1 none rm_X6_init [rv a0] h (KV K) := by
  refine Con.of (by decide +kernel) (cat_R cat_nil) (Nat.le_of_ble_eq_true rfl) (fun X hC hQ => ?_)
  refine r_sub (lo1 := [some (rv a0)]) (show lsub [some (rv a0)] _ from ⟨Or.inr rfl, trivial⟩) ?_
  exact ok_X6_init_0 hC hQ a0 h hV
theorem dX6_job_0 : decode cX6_job 0 = .ok (.aload_n 0, 1) := by decide +kernel
theorem dX6_job_1 : decode cX6_job 1 = .ok (.getfield 19, 3) := by decide +kernel
theorem dX6_job_4 : decode cX6_job 4 = .ok (.iload_n 1, 1) := by decide +kernel
theorem dX6_job_5 : decode cX6_job 5 = .ok (.invokevirtual 138, 3) := by decide +kernel
theorem dX6_job_8 : decode cX6_job 8 = .ok (.astore_n 3, 1) := by decide +kernel
theorem dX6_job_9 : decode cX6_job 9 = .ok (.aload_n 3, 1) := by decide +kernel
theorem dX6_job_10 : decode cX6_job 10 = .ok (.ifnonnull 5, 3) := by decide +kernel
theorem dX6_job_13 : decode cX6_job 13 = .ok (.iconst (-1), 1) := by decide +kernel
theorem dX6_job_14 : decode cX6_job 14 = .ok (.ireturn, 1) := by decide +kernel
theorem dX6_job_15 : decode cX6_job 15 = .ok (.iload_n 2, 1) := by decide +kernel
theorem dX6_job_16 : decode cX6_job 16 = .ok (.tableswitch 142 0 10 #[60, 68, 76, 84, 89, 100, 111, 122, 127, 132, 137], 60) := by decide +kernel
theorem dX6_job_76 : decode cX6_job 76 = .ok (.aload_n 3, 1) := by decide +kernel
theorem dX6_job_77 : decode cX6_job 77 = .ok (.getfield 152, 3) := by decide +kernel
theorem dX6_job_80 : decode cX6_job 80 = .ok (.getfield 156, 3) := by decide +kernel
theorem dX6_job_83 : decode cX6_job 83 = .ok (.ireturn, 1) := by decide +kernel
theorem dX6_job_84 : decode cX6_job 84 = .ok (.aload_n 3, 1) := by decide +kernel
theorem dX6_job_85 : decode cX6_job 85 = .ok (.getfield 152, 3) := by decide +kernel
theorem dX6_job_88 : decode cX6_job 88 = .ok (.getfield 196, 3) := by decide +kernel
theorem dX6_job_91 : decode cX6_job 91 = .ok (.ireturn, 1) := by decide +kernel
theorem dX6_job_92 : decode cX6_job 92 = .ok (.aload_n 3, 1) := by decide +kernel
theorem dX6_job_93 : decode cX6_job 93 = .ok (.getfield 152, 3) := by decide +kernel
theorem dX6_job_96 : decode cX6_job 96 = .ok (.getfield 199, 3) := by decide +kernel
theorem dX6_job_99 : decode cX6_job 99 = .ok (.ireturn, 1) := by decide +kernel
theorem dX6_job_100 : decode cX6_job 100 = .ok (.aload_n 3, 1) := by decide +kernel
theorem dX6_job_101 : decode cX6_job 101 = .ok (.getfield 142, 3) := by decide +kernel
theorem dX6_job_104 : decode cX6_job 104 = .ok (.ireturn, 1) := by decide +kernel
theorem dX6_job_105 : decode cX6_job 105 = .ok (.aload_n 3, 1) := by decide +kernel
theorem dX6_job_106 : decode cX6_job 106 = .ok (.getfield 152, 3) := by decide +kernel
theorem dX6_job_109 : decode cX6_job 109 = .ok (.getfield 202, 3) := by decide +kernel
theorem dX6_job_112 : decode cX6_job 112 = .ok (.getfield 206, 3) := by decide +kernel
theorem dX6_job_115 : decode cX6_job 115 = .ok (.ireturn, 1) := by decide +kernel
theorem dX6_job_116 : decode cX6_job 116 = .ok (.aload_n 3, 1) := by decide +kernel
theorem dX6_job_117 : decode cX6_job 117 = .ok (.getfield 152, 3) := by decide +kernel
theorem dX6_job_120 : decode cX6_job 120 = .ok (.getfield 202, 3) := by decide +kernel
theorem dX6_job_123 : decode cX6_job 123 = .ok (.getfield 209, 3) := by decide +kernel
theorem dX6_job_126 : decode cX6_job 126 = .ok (.ireturn, 1) := by decide +kernel
theorem dX6_job_127 : decode cX6_job 127 = .ok (.aload_n 3, 1) := by decide +kernel
theorem dX6_job_128 : decode cX6_job 128 = .ok (.getfield 152, 3) := by decide +kernel
theorem dX6_job_131 : decode cX6_job 131 = .ok (.getfield 202, 3) := by decide +kernel
theorem dX6_job_134 : decode cX6_job 134 = .ok (.getfield 212, 3) := by decide +kernel
theorem dX6_job_137 : decode cX6_job 137 = .ok (.ireturn, 1) := by decide +kernel
theorem dX6_job_138 : decode cX6_job 138 = .ok (.aload_n 3, 1) := by decide +kernel
theorem dX6_job_139 : decode cX6_job 139 = .ok (.invokevirtual 186, 3) := by decide +kernel
theorem dX6_job_142 : decode cX6_job 142 = .ok (.ireturn, 1) := by decide +kernel
theorem dX6_job_143 : decode cX6_job 143 = .ok (.aload_n 3, 1) := by decide +kernel
theorem dX6_job_144 : decode cX6_job 144 = .ok (.invokevirtual 163, 3) := by decide +kernel
theorem dX6_job_147 : decode cX6_job 147 = .ok (.ireturn, 1) := by decide +kernel
theorem dX6_job_148 : decode cX6_job 148 = .ok (.aload_n 3, 1) := by decide +kernel
theorem dX6_job_149 : decode cX6_job 149 = .ok (.getfield 179, 3) := by decide +kernel
theorem dX6_job_152 : decode cX6_job 152 = .ok (.ireturn, 1) := by decide +kernel
theorem dX6_job_153 : decode cX6_job 153 = .ok (.aload_n 3, 1) := by decide +kernel
theorem dX6_job_154 : decode cX6_job 154 = .ok (.invokevirtual 172, 3) := by decide +kernel
theorem dX6_job_157 : decode cX6_job 157 = .ok (.ireturn, 1) := by decide +kernel
theorem dX6_job_158 : decode cX6_job 158 = .ok (.bipush (-2), 2) := by decide +kernel
theorem dX6_job_160 : decode cX6_job 160 = .ok (.ireturn, 1) := by decide +kernel
def rm_X6_job : Room := { frames := 3, cells := 0, slots := 0, locals := 66 }
set_option maxRecDepth 100000 in
set_option maxHeartbeats 4000000 in
theorem ok_X6_job_0 {E : Ev} {X : Xt} {l0 : Launch} {K : Int32 → Hp → Prop} (hC : Cx E X l0 RX6 cX6_job 4 rm_X6_job) (hQ : CQ E X "job" (some .int) rm_X6_job (KI K)) (a0 : Nat) (a1 : Int32) (a2 : Int32) (h : Hp) (hV : V_X6_job a0 a1 a2 h K) : WW E X h 0 0 0 [some (rv a0), some (.int a1), some (.int a2), none] [] := by
  unfold V_X6_job at hV
  refine r_aload_n hC dX6_job_0 rfl ?_
  obtain ⟨k9, hV⟩ := hV
  refine r_getR hC dX6_job_1 fl_6_19 rf_6_1 lq_6 k9 ?_
  refine r_iload_n hC dX6_job_4 rfl ?_
  obtain ⟨k9, hV⟩ := hV
  refine r_callV (ci := 5) (As := [.int a1]) hC dX6_job_5 rfl cf_X5_findJob ml_6_138 im_X5_findJob sl_X5_findJob lq_5 rfl rfl k9 rfl ⟨(Nat.le_of_ble_eq_true rfl), (Nat.le_of_ble_eq_true rfl), (Nat.le_of_ble_eq_true rfl), (Nat.le_of_ble_eq_true rfl)⟩ cs0 (Nat.le_of_ble_eq_true rfl) (con_X5_findJob (hR h a0 1) a1 h _ hV) rfl (kR (k := 0) (n := 0) (fun r1 h1 hV => ?_))
  refine r_astore_n (ii := 3) (lo1 := [some (rv a0), some (.int a1), some (.int a2), some (rv r1)]) hC dX6_job_8 rfl (Nat.le_of_ble_eq_true rfl) (pvI rfl) rfl ?_
  refine r_aload_n hC dX6_job_9 rfl ?_
  refine r_ifnonnull (tgt := 15) hC dX6_job_10 (by decide) (fun k9 => ?_) (fun k9 => ?_)
  · replace hV := hV.1 k9
    refine r_iload_n hC dX6_job_15 rfl ?_
    rcases (show a2.toInt = 0 ∨ a2.toInt = 1 ∨ a2.toInt = 2 ∨ a2.toInt = 3 ∨ a2.toInt = 4 ∨ a2.toInt = 5 ∨ a2.toInt = 6 ∨ a2.toInt = 7 ∨ a2.toInt = 8 ∨ a2.toInt = 9 ∨ a2.toInt = 10 ∨ (a2.toInt < 0 ∨ 10 < a2.toInt) by omega) with k9 | k9 | k9 | k9 | k9 | k9 | k9 | k9 | k9 | k9 | k9 | k9
    · replace hV := hV.1 k9
      refine r_tabIn (tgt := 76) hC dX6_job_16 0 (by omega) (by decide) rfl (by decide) ?_
      refine r_aload_n hC dX6_job_76 rfl ?_
      obtain ⟨k9, hV⟩ := hV
      refine r_getR hC dX6_job_77 fl_6_152 rf_1_0 lq_1 k9 ?_
      obtain ⟨k9, hV⟩ := hV
      refine r_getI hC dX6_job_80 fl_6_156 rf_3_0 lq_3 k9 ?_
      exact r_iret hC hQ dX6_job_83 (Nat.le_of_ble_eq_true rfl) (Nat.le_of_ble_eq_true rfl) ⟨_, rfl, hV⟩
    · replace hV := hV.2.1 k9
      refine r_tabIn (tgt := 84) hC dX6_job_16 1 (by omega) (by decide) rfl (by decide) ?_
      refine r_aload_n hC dX6_job_84 rfl ?_
      obtain ⟨k9, hV⟩ := hV
      refine r_getR hC dX6_job_85 fl_6_152 rf_1_0 lq_1 k9 ?_
      obtain ⟨k9, hV⟩ := hV
      refine r_getI hC dX6_job_88 fl_6_196 rf_3_1 lq_3 k9 ?_
      exact r_iret hC hQ dX6_job_91 (Nat.le_of_ble_eq_true rfl) (Nat.le_of_ble_eq_true rfl) ⟨_, rfl, hV⟩
    · replace hV := hV.2.2.1 k9
      refine r_tabIn (tgt := 92) hC dX6_job_16 2 (by omega) (by decide) rfl (by decide) ?_
      refine r_aload_n hC dX6_job_92 rfl ?_
      obtain ⟨k9, hV⟩ := hV
      refine r_getR hC dX6_job_93 fl_6_152 rf_1_0 lq_1 k9 ?_
      obtain ⟨k9, hV⟩ := hV
      refine r_getI hC dX6_job_96 fl_6_199 rf_3_2 lq_3 k9 ?_
      exact r_iret hC hQ dX6_job_99 (Nat.le_of_ble_eq_true rfl) (Nat.le_of_ble_eq_true rfl) ⟨_, rfl, hV⟩
    · replace hV := hV.2.2.2.1 k9
      refine r_tabIn (tgt := 100) hC dX6_job_16 3 (by omega) (by decide) rfl (by decide) ?_
      refine r_aload_n hC dX6_job_100 rfl ?_
      obtain ⟨k9, hV⟩ := hV
      refine r_getI hC dX6_job_101 fl_6_142 rf_1_1 lq_1 k9 ?_
      exact r_iret hC hQ dX6_job_104 (Nat.le_of_ble_eq_true rfl) (Nat.le_of_ble_eq_true rfl) ⟨_, rfl, hV⟩
    · replace hV := hV.2.2.2.2.1 k9
      refine r_tabIn (tgt := 105) hC dX6_job_16 4 (by omega) (by decide) rfl (by decide) ?_
      refine r_aload_n hC dX6_job_105 rfl ?_
      obtain ⟨k9, hV⟩ := hV
      refine r_getR hC dX6_job_106 fl_6_152 rf_1_0 lq_1 k9 ?_
      obtain ⟨k9, hV⟩ := hV
      refine r_getR hC dX6_job_109 fl_6_202 rf_3_3 lq_3 k9 ?_
      obtain ⟨k9, hV⟩ := hV
      refine r_getI hC dX6_job_112 fl_6_206 rf_2_5 lq_2 k9 ?_
      exact r_iret hC hQ dX6_job_115 (Nat.le_of_ble_eq_true rfl) (Nat.le_of_ble_eq_true rfl) ⟨_, rfl, hV⟩
    · replace hV := hV.2.2.2.2.2.1 k9
      refine r_tabIn (tgt := 116) hC dX6_job_16 5 (by omega) (by decide) rfl (by decide) ?_
      refine r_aload_n hC dX6_job_116 rfl ?_
      obtain ⟨k9, hV⟩ := hV
      refine r_getR hC dX6_job_117 fl_6_152 rf_1_0 lq_1 k9 ?_
      obtain ⟨k9, hV⟩ := hV
      refine r_getR hC dX6_job_120 fl_6_202 rf_3_3 lq_3 k9 ?_
      obtain ⟨k9, hV⟩ := hV
      refine r_getI hC dX6_job_123 fl_6_209 rf_2_6 lq_2 k9 ?_
      exact r_iret hC hQ dX6_job_126 (Nat.le_of_ble_eq_true rfl) (Nat.le_of_ble_eq_true rfl) ⟨_, rfl, hV⟩
    · replace hV := hV.2.2.2.2.2.2.1 k9
      refine r_tabIn (tgt := 127) hC dX6_job_16 6 (by omega) (by decide) rfl (by decide) ?_
      refine r_aload_n hC dX6_job_127 rfl ?_
      obtain ⟨k9, hV⟩ := hV
      refine r_getR hC dX6_job_128 fl_6_152 rf_1_0 lq_1 k9 ?_
      obtain ⟨k9, hV⟩ := hV
      refine r_getR hC dX6_job_131 fl_6_202 rf_3_3 lq_3 k9 ?_
      obtain ⟨k9, hV⟩ := hV
      refine r_getI hC dX6_job_134 fl_6_212 rf_2_7 lq_2 k9 ?_
      exact r_iret hC hQ dX6_job_137 (Nat.le_of_ble_eq_true rfl) (Nat.le_of_ble_eq_true rfl) ⟨_, rfl, hV⟩
    · replace hV := hV.2.2.2.2.2.2.2.1 k9
      refine r_tabIn (tgt := 138) hC dX6_job_16 7 (by omega) (by decide) rfl (by decide) ?_
      refine r_aload_n hC dX6_job_138 rfl ?_
      obtain ⟨k9, hV⟩ := hV
      refine r_callV (ci := 1) (As := []) hC dX6_job_139 rfl cf_X1_formePieces ml_6_186 im_X1_formePieces sl_X1_formePieces lq_1 rfl rfl k9 rfl ⟨(Nat.le_of_ble_eq_true rfl), (Nat.le_of_ble_eq_true rfl), (Nat.le_of_ble_eq_true rfl), (Nat.le_of_ble_eq_true rfl)⟩ cs0 (Nat.le_of_ble_eq_true rfl) (con_X1_formePieces r1 h1 _ hV) rfl (kI (k := 0) (n := 0) (fun r2 h2 hV => ?_))
      exact r_iret hC hQ dX6_job_142 (Nat.le_of_ble_eq_true rfl) (Nat.le_of_ble_eq_true rfl) ⟨_, rfl, hV⟩
    · replace hV := hV.2.2.2.2.2.2.2.2.1 k9
      refine r_tabIn (tgt := 143) hC dX6_job_16 8 (by omega) (by decide) rfl (by decide) ?_
      refine r_aload_n hC dX6_job_143 rfl ?_
      obtain ⟨k9, hV⟩ := hV
      refine r_callV (ci := 1) (As := []) hC dX6_job_144 rfl cf_X1_borrowedPieces ml_6_163 im_X1_borrowedPieces sl_X1_borrowedPieces lq_1 rfl rfl k9 rfl ⟨(Nat.le_of_ble_eq_true rfl), (Nat.le_of_ble_eq_true rfl), (Nat.le_of_ble_eq_true rfl), (Nat.le_of_ble_eq_true rfl)⟩ cs0 (Nat.le_of_ble_eq_true rfl) (con_X1_borrowedPieces r1 h1 _ hV) rfl (kI (k := 0) (n := 0) (fun r2 h2 hV => ?_))
      exact r_iret hC hQ dX6_job_147 (Nat.le_of_ble_eq_true rfl) (Nat.le_of_ble_eq_true rfl) ⟨_, rfl, hV⟩
    · replace hV := hV.2.2.2.2.2.2.2.2.2.1 k9
      refine r_tabIn (tgt := 148) hC dX6_job_16 9 (by omega) (by decide) rfl (by decide) ?_
      refine r_aload_n hC dX6_job_148 rfl ?_
      obtain ⟨k9, hV⟩ := hV
      refine r_getI hC dX6_job_149 fl_6_179 rf_1_2 lq_1 k9 ?_
      exact r_iret hC hQ dX6_job_152 (Nat.le_of_ble_eq_true rfl) (Nat.le_of_ble_eq_true rfl) ⟨_, rfl, hV⟩
    · replace hV := hV.2.2.2.2.2.2.2.2.2.2.1 k9
      refine r_tabIn (tgt := 153) hC dX6_job_16 10 (by omega) (by decide) rfl (by decide) ?_
      refine r_aload_n hC dX6_job_153 rfl ?_
      obtain ⟨k9, hV⟩ := hV
      refine r_callV (ci := 1) (As := []) hC dX6_job_154 rfl cf_X1_daysLate ml_6_172 im_X1_daysLate sl_X1_daysLate lq_1 rfl rfl k9 rfl ⟨(Nat.le_of_ble_eq_true rfl), (Nat.le_of_ble_eq_true rfl), (Nat.le_of_ble_eq_true rfl), (Nat.le_of_ble_eq_true rfl)⟩ cs0 (Nat.le_of_ble_eq_true rfl) (con_X1_daysLate r1 h1 _ hV) rfl (kI (k := 0) (n := 0) (fun r2 h2 hV => ?_))
      exact r_iret hC hQ dX6_job_157 (Nat.le_of_ble_eq_true rfl) (Nat.le_of_ble_eq_true rfl) ⟨_, rfl, hV⟩
    · replace hV := hV.2.2.2.2.2.2.2.2.2.2.2 k9
      refine r_tabOut (tgt := 158) hC dX6_job_16 k9 (by decide) ?_
      refine r_bipush (v := (-2)) hC dX6_job_158 (by decide) ?_
      exact r_iret hC hQ dX6_job_160 (Nat.le_of_ble_eq_true rfl) (Nat.le_of_ble_eq_true rfl) ⟨_, rfl, hV⟩
  · replace hV := hV.2 k9
    refine r_iconst (v := (-1)) hC dX6_job_13 (by decide) ?_
    exact r_iret hC hQ dX6_job_14 (Nat.le_of_ble_eq_true rfl) (Nat.le_of_ble_eq_true rfl) ⟨_, rfl, hV⟩
set_option maxRecDepth 100000 in
set_option maxHeartbeats 4000000 in
theorem con_X6_job {E : Ev} {l0 : Launch} (a0 : Nat) (a1 : Int32) (a2 : Int32) (h : Hp) (K : Int32 → Hp → Prop) (hV : V_X6_job a0 a1 a2 h K) : Con E l0 yX6_job cX6_job 4 (some .int) rm_X6_job [rv a0, .int a1, .int a2] h (KI K) := by
  refine Con.of (by decide +kernel) (cat_R (cat_I (cat_I cat_nil))) (Nat.le_of_ble_eq_true rfl) (fun X hC hQ => ?_)
  refine r_sub (lo1 := [some (rv a0), some (.int a1), some (.int a2), none]) (show lsub [some (rv a0), some (.int a1), some (.int a2), none] _ from ⟨Or.inr rfl, ⟨Or.inr rfl, ⟨Or.inr rfl, ⟨Or.inr rfl, trivial⟩⟩⟩⟩) ?_
  exact ok_X6_job_0 hC hQ a0 a1 a2 h hV
theorem dX6_melt_0 : decode cX6_melt 0 = .ok (.aload_n 0, 1) := by decide +kernel
theorem dX6_melt_1 : decode cX6_melt 1 = .ok (.iload_n 1, 1) := by decide +kernel
theorem dX6_melt_2 : decode cX6_melt 2 = .ok (.invokevirtual 64, 3) := by decide +kernel
theorem dX6_melt_5 : decode cX6_melt 5 = .ok (.ifCond .eq 10, 3) := by decide +kernel
theorem dX6_melt_8 : decode cX6_melt 8 = .ok (.iload_n 2, 1) := by decide +kernel
theorem dX6_melt_9 : decode cX6_melt 9 = .ok (.invokestatic 68, 3) := by decide +kernel
theorem dX6_melt_12 : decode cX6_melt 12 = .ok (.ifCond .ne 5, 3) := by decide +kernel
theorem dX6_melt_15 : decode cX6_melt 15 = .ok (.iconst (-1), 1) := by decide +kernel
theorem dX6_melt_16 : decode cX6_melt 16 = .ok (.ireturn, 1) := by decide +kernel
theorem dX6_melt_17 : decode cX6_melt 17 = .ok (.iload_n 3, 1) := by decide +kernel
theorem dX6_melt_18 : decode cX6_melt 18 = .ok (.iconst 1, 1) := by decide +kernel
theorem dX6_melt_19 : decode cX6_melt 19 = .ok (.if_icmp .lt 9, 3) := by decide +kernel
theorem dX6_melt_22 : decode cX6_melt 22 = .ok (.iload_n 3, 1) := by decide +kernel
theorem dX6_melt_23 : decode cX6_melt 23 = .ok (.bipush 99, 2) := by decide +kernel
theorem dX6_melt_25 : decode cX6_melt 25 = .ok (.if_icmp .le 6, 3) := by decide +kernel
theorem dX6_melt_28 : decode cX6_melt 28 = .ok (.bipush (-2), 2) := by decide +kernel
theorem dX6_melt_30 : decode cX6_melt 30 = .ok (.ireturn, 1) := by decide +kernel
theorem dX6_melt_31 : decode cX6_melt 31 = .ok (.aload_n 0, 1) := by decide +kernel
theorem dX6_melt_32 : decode cX6_melt 32 = .ok (.getfield 19, 3) := by decide +kernel
theorem dX6_melt_35 : decode cX6_melt 35 = .ok (.iload_n 1, 1) := by decide +kernel
theorem dX6_melt_36 : decode cX6_melt 36 = .ok (.iload_n 2, 1) := by decide +kernel
theorem dX6_melt_37 : decode cX6_melt 37 = .ok (.invokevirtual 75, 3) := by decide +kernel
theorem dX6_melt_40 : decode cX6_melt 40 = .ok (.iload_n 3, 1) := by decide +kernel
theorem dX6_melt_41 : decode cX6_melt 41 = .ok (.if_icmp .ge 6, 3) := by decide +kernel
theorem dX6_melt_44 : decode cX6_melt 44 = .ok (.bipush (-4), 2) := by decide +kernel
theorem dX6_melt_46 : decode cX6_melt 46 = .ok (.ireturn, 1) := by decide +kernel
theorem dX6_melt_47 : decode cX6_melt 47 = .ok (.aload_n 0, 1) := by decide +kernel
theorem dX6_melt_48 : decode cX6_melt 48 = .ok (.invokevirtual 55, 3) := by decide +kernel
theorem dX6_melt_51 : decode cX6_melt 51 = .ok (.aload_n 0, 1) := by decide +kernel
theorem dX6_melt_52 : decode cX6_melt 52 = .ok (.getfield 19, 3) := by decide +kernel
theorem dX6_melt_55 : decode cX6_melt 55 = .ok (.iload_n 1, 1) := by decide +kernel
theorem dX6_melt_56 : decode cX6_melt 56 = .ok (.iload_n 2, 1) := by decide +kernel
theorem dX6_melt_57 : decode cX6_melt 57 = .ok (.iload_n 3, 1) := by decide +kernel
theorem dX6_melt_58 : decode cX6_melt 58 = .ok (.ineg, 1) := by decide +kernel
theorem dX6_melt_59 : decode cX6_melt 59 = .ok (.invokevirtual 79, 3) := by decide +kernel
theorem dX6_melt_62 : decode cX6_melt 62 = .ok (.aload_n 0, 1) := by decide +kernel
theorem dX6_melt_63 : decode cX6_melt 63 = .ok (.getfield 19, 3) := by decide +kernel
theorem dX6_melt_66 : decode cX6_melt 66 = .ok (.dup, 1) := by decide +kernel
theorem dX6_melt_67 : decode cX6_melt 67 = .ok (.getfield 51, 3) := by decide +kernel
theorem dX6_melt_70 : decode cX6_melt 70 = .ok (.iload_n 3, 1) := by decide +kernel
theorem dX6_melt_71 : decode cX6_melt 71 = .ok (.iload_n 2, 1) := by decide +kernel
theorem dX6_melt_72 : decode cX6_melt 72 = .ok (.invokestatic 83, 3) := by decide +kernel
theorem dX6_melt_75 : decode cX6_melt 75 = .ok (.imul, 1) := by decide +kernel
theorem dX6_melt_76 : decode cX6_melt 76 = .ok (.iadd, 1) := by decide +kernel
theorem dX6_melt_77 : decode cX6_melt 77 = .ok (.putfield 51, 3) := by decide +kernel
theorem dX6_melt_80 : decode cX6_melt 80 = .ok (.aload_n 0, 1) := by decide +kernel
theorem dX6_melt_81 : decode cX6_melt 81 = .ok (.getfield 19, 3) := by decide +kernel
theorem dX6_melt_84 : decode cX6_melt 84 = .ok (.dup, 1) := by decide +kernel
theorem dX6_melt_85 : decode cX6_melt 85 = .ok (.getfield 86, 3) := by decide +kernel
theorem dX6_melt_88 : decode cX6_melt 88 = .ok (.iload_n 3, 1) := by decide +kernel
theorem dX6_melt_89 : decode cX6_melt 89 = .ok (.iadd, 1) := by decide +kernel
theorem dX6_melt_90 : decode cX6_melt 90 = .ok (.putfield 86, 3) := by decide +kernel
theorem dX6_melt_93 : decode cX6_melt 93 = .ok (.aload_n 0, 1) := by decide +kernel
theorem dX6_melt_94 : decode cX6_melt 94 = .ok (.getfield 19, 3) := by decide +kernel
theorem dX6_melt_97 : decode cX6_melt 97 = .ok (.getfield 51, 3) := by decide +kernel
theorem dX6_melt_100 : decode cX6_melt 100 = .ok (.ireturn, 1) := by decide +kernel
def rm_X6_melt : Room := { frames := 3, cells := 4, slots := 226, locals := 68 }
set_option maxRecDepth 100000 in
set_option maxHeartbeats 4000000 in
theorem ok_X6_melt_15 {E : Ev} {X : Xt} {l0 : Launch} {K : Int32 → Hp → Prop} (hC : Cx E X l0 RX6 cX6_melt 4 rm_X6_melt) (hQ : CQ E X "melt" (some .int) rm_X6_melt (KI K)) (h : Hp) (hV : V_X6_melt_15 K  h) : WW E X h 0 0 15 [none, none, none, none] [] := by
  unfold V_X6_melt_15 at hV
  refine r_iconst (v := (-1)) hC dX6_melt_15 (by decide) ?_
  exact r_iret hC hQ dX6_melt_16 (Nat.le_of_ble_eq_true rfl) (Nat.le_of_ble_eq_true rfl) ⟨_, rfl, hV⟩
set_option maxRecDepth 100000 in
set_option maxHeartbeats 4000000 in
theorem ok_X6_melt_28 {E : Ev} {X : Xt} {l0 : Launch} {K : Int32 → Hp → Prop} (hC : Cx E X l0 RX6 cX6_melt 4 rm_X6_melt) (hQ : CQ E X "melt" (some .int) rm_X6_melt (KI K)) (h : Hp) (hV : V_X6_melt_28 K  h) : WW E X h 0 0 28 [none, none, none, none] [] := by
  unfold V_X6_melt_28 at hV
  refine r_bipush (v := (-2)) hC dX6_melt_28 (by decide) ?_
  exact r_iret hC hQ dX6_melt_30 (Nat.le_of_ble_eq_true rfl) (Nat.le_of_ble_eq_true rfl) ⟨_, rfl, hV⟩
set_option maxRecDepth 100000 in
set_option maxHeartbeats 4000000 in
theorem ok_X6_melt_0 {E : Ev} {X : Xt} {l0 : Launch} {K : Int32 → Hp → Prop} (hC : Cx E X l0 RX6 cX6_melt 4 rm_X6_melt) (hQ : CQ E X "melt" (some .int) rm_X6_melt (KI K)) (a0 : Nat) (a1 : Int32) (a2 : Int32) (a3 : Int32) (h : Hp) (hV : V_X6_melt a0 a1 a2 a3 h K) : WW E X h 0 0 0 [some (rv a0), some (.int a1), some (.int a2), some (.int a3)] [] := by
  unfold V_X6_melt at hV
  refine r_aload_n hC dX6_melt_0 rfl ?_
  refine r_iload_n hC dX6_melt_1 rfl ?_
  obtain ⟨k9, hV⟩ := hV
  refine r_callV (ci := 6) (As := [.int a1]) hC dX6_melt_2 rfl cf_X6_isCase ml_6_64 im_X6_isCase sl_X6_isCase lq_6 rfl rfl k9 rfl ⟨(Nat.le_of_ble_eq_true rfl), (Nat.le_of_ble_eq_true rfl), (Nat.le_of_ble_eq_true rfl), (Nat.le_of_ble_eq_true rfl)⟩ cs0 (Nat.le_of_ble_eq_true rfl) (con_X6_isCase a0 a1 h _ hV) rfl (kI (k := 0) (n := 0) (fun r1 h1 hV => ?_))
  refine r_if_eq (tgt := 15) hC dX6_melt_5 (by decide) (fun k9 => ?_) (fun k9 => ?_)
  · replace hV := hV.1 k9
    refine r_sub (lo1 := [none, none, none, none]) ⟨Or.inl rfl, ⟨Or.inl rfl, ⟨Or.inl rfl, ⟨Or.inl rfl, trivial⟩⟩⟩⟩ ?_
    exact ok_X6_melt_15 hC hQ  h1 hV
  · replace hV := hV.2 k9
    refine r_iload_n hC dX6_melt_8 rfl ?_
    refine r_callS (As := [.int a2]) hC dX6_melt_9 rfl cf_X6_isSort ml_6_68 st_X6_isSort rfl ⟨(Nat.le_of_ble_eq_true rfl), (Nat.le_of_ble_eq_true rfl), (Nat.le_of_ble_eq_true rfl), (Nat.le_of_ble_eq_true rfl)⟩ cs0 (Nat.le_of_ble_eq_true rfl) (con_X6_isSort a2 h1 _ hV) rfl (kI (k := 0) (n := 0) (fun r2 h2 hV => ?_))
    refine r_if_ne (tgt := 17) hC dX6_melt_12 (by decide) (fun k9 => ?_) (fun k9 => ?_)
    · replace hV := hV.1 k9
      refine r_iload_n hC dX6_melt_17 rfl ?_
      refine r_iconst (v := 1) hC dX6_melt_18 (by decide) ?_
      refine r_icmp_lt (tgt := 28) hC dX6_melt_19 (by decide) (fun k9 => ?_) (fun k9 => ?_)
      · replace hV := hV.1 k9
        refine r_sub (lo1 := [none, none, none, none]) ⟨Or.inl rfl, ⟨Or.inl rfl, ⟨Or.inl rfl, ⟨Or.inl rfl, trivial⟩⟩⟩⟩ ?_
        exact ok_X6_melt_28 hC hQ  h2 hV
      · replace hV := hV.2 k9
        refine r_iload_n hC dX6_melt_22 rfl ?_
        refine r_bipush (v := 99) hC dX6_melt_23 (by decide) ?_
        refine r_icmp_le (tgt := 31) hC dX6_melt_25 (by decide) (fun k9 => ?_) (fun k9 => ?_)
        · replace hV := hV.1 k9
          refine r_aload_n hC dX6_melt_31 rfl ?_
          obtain ⟨k9, hV⟩ := hV
          refine r_getR hC dX6_melt_32 fl_6_19 rf_6_1 lq_6 k9 ?_
          refine r_iload_n hC dX6_melt_35 rfl ?_
          refine r_iload_n hC dX6_melt_36 rfl ?_
          obtain ⟨k9, hV⟩ := hV
          refine r_callV (ci := 5) (As := [.int a1, .int a2]) hC dX6_melt_37 rfl cf_X5_held ml_6_75 im_X5_held sl_X5_held lq_5 rfl rfl k9 rfl ⟨(Nat.le_of_ble_eq_true rfl), (Nat.le_of_ble_eq_true rfl), (Nat.le_of_ble_eq_true rfl), (Nat.le_of_ble_eq_true rfl)⟩ cs0 (Nat.le_of_ble_eq_true rfl) (con_X5_held (hR h2 a0 1) a1 a2 h2 _ hV) rfl (kI (k := 0) (n := 0) (fun r3 h3 hV => ?_))
          refine r_iload_n hC dX6_melt_40 rfl ?_
          refine r_icmp_ge (tgt := 47) hC dX6_melt_41 (by decide) (fun k9 => ?_) (fun k9 => ?_)
          · replace hV := hV.1 k9
            refine r_aload_n hC dX6_melt_47 rfl ?_
            obtain ⟨k9, hV⟩ := hV
            refine r_callV (ci := 6) (As := []) hC dX6_melt_48 rfl cf_X6_recordState ml_6_55 im_X6_recordState sl_X6_recordState lq_6 rfl rfl k9 rfl ⟨(Nat.le_of_ble_eq_true rfl), (Nat.le_of_ble_eq_true rfl), (Nat.le_of_ble_eq_true rfl), (Nat.le_of_ble_eq_true rfl)⟩ cs0 (Nat.le_of_ble_eq_true rfl) (con_X6_recordState a0 h3 _ hV) rfl (kV (k := 4) (n := 226) (fun h4 hV => ?_))
            refine r_aload_n hC dX6_melt_51 rfl ?_
            obtain ⟨k9, hV⟩ := hV
            refine r_getR hC dX6_melt_52 fl_6_19 rf_6_1 lq_6 k9 ?_
            refine r_iload_n hC dX6_melt_55 rfl ?_
            refine r_iload_n hC dX6_melt_56 rfl ?_
            refine r_iload_n hC dX6_melt_57 rfl ?_
            refine r_ineg hC dX6_melt_58 ?_
            obtain ⟨k9, hV⟩ := hV
            refine r_callV (ci := 5) (As := [.int a1, .int a2, .int (-a3)]) hC dX6_melt_59 rfl cf_X5_put ml_6_79 im_X5_put sl_X5_put lq_5 rfl rfl k9 rfl ⟨(Nat.le_of_ble_eq_true rfl), (Nat.le_of_ble_eq_true rfl), (Nat.le_of_ble_eq_true rfl), (Nat.le_of_ble_eq_true rfl)⟩ cs0 (Nat.le_of_ble_eq_true rfl) (con_X5_put (hR h4 a0 1) a1 a2 (-a3) h4 _ hV) rfl (kV (k := 4) (n := 226) (fun h5 hV => ?_))
            refine r_aload_n hC dX6_melt_62 rfl ?_
            obtain ⟨k9, hV⟩ := hV
            refine r_getR hC dX6_melt_63 fl_6_19 rf_6_1 lq_6 k9 ?_
            refine r_dup hC dX6_melt_66 (rv_cat _) ?_
            obtain ⟨k9, hV⟩ := hV
            refine r_getI hC dX6_melt_67 fl_6_51 rf_5_5 lq_5 k9 ?_
            refine r_iload_n hC dX6_melt_70 rfl ?_
            refine r_iload_n hC dX6_melt_71 rfl ?_
            refine r_callS (As := [.int a2]) hC dX6_melt_72 rfl cf_X6_widthOf ml_6_83 st_X6_widthOf rfl ⟨(Nat.le_of_ble_eq_true rfl), (Nat.le_of_ble_eq_true rfl), (Nat.le_of_ble_eq_true rfl), (Nat.le_of_ble_eq_true rfl)⟩ (csI (csI (csR cs0))) (Nat.le_of_ble_eq_true rfl) (con_X6_widthOf a2 h5 _ hV) rfl (kI (k := 4) (n := 226) (fun r4 h6 hV => ?_))
            refine r_imul hC dX6_melt_75 ?_
            refine r_iadd hC dX6_melt_76 ?_
            obtain ⟨k9, hV⟩ := hV
            refine r_putI hC dX6_melt_77 fl_6_51 ft_5 rfl rf_5_5 ty_5_5 lq_5 k9 (nmH (fun h7 k9 => ?_))
            replace hV := hV h7 k9
            refine r_aload_n hC dX6_melt_80 rfl ?_
            obtain ⟨k9, hV⟩ := hV
            refine r_getR hC dX6_melt_81 fl_6_19 rf_6_1 lq_6 k9 ?_
            refine r_dup hC dX6_melt_84 (rv_cat _) ?_
            obtain ⟨k9, hV⟩ := hV
            refine r_getI hC dX6_melt_85 fl_6_86 rf_5_10 lq_5 k9 ?_
            refine r_iload_n hC dX6_melt_88 rfl ?_
            refine r_iadd hC dX6_melt_89 ?_
            obtain ⟨k9, hV⟩ := hV
            refine r_putI hC dX6_melt_90 fl_6_86 ft_5 rfl rf_5_10 ty_5_10 lq_5 k9 (nmH (fun h8 k9 => ?_))
            replace hV := hV h8 k9
            refine r_aload_n hC dX6_melt_93 rfl ?_
            obtain ⟨k9, hV⟩ := hV
            refine r_getR hC dX6_melt_94 fl_6_19 rf_6_1 lq_6 k9 ?_
            obtain ⟨k9, hV⟩ := hV
            refine r_getI hC dX6_melt_97 fl_6_51 rf_5_5 lq_5 k9 ?_
            exact r_iret hC hQ dX6_melt_100 (Nat.le_of_ble_eq_true rfl) (Nat.le_of_ble_eq_true rfl) ⟨_, rfl, hV⟩
          · replace hV := hV.2 k9
            refine r_bipush (v := (-4)) hC dX6_melt_44 (by decide) ?_
            exact r_iret hC hQ dX6_melt_46 (Nat.le_of_ble_eq_true rfl) (Nat.le_of_ble_eq_true rfl) ⟨_, rfl, hV⟩
        · replace hV := hV.2 k9
          refine r_sub (lo1 := [none, none, none, none]) ⟨Or.inl rfl, ⟨Or.inl rfl, ⟨Or.inl rfl, ⟨Or.inl rfl, trivial⟩⟩⟩⟩ ?_
          exact ok_X6_melt_28 hC hQ  h2 hV
    · replace hV := hV.2 k9
      refine r_sub (lo1 := [none, none, none, none]) ⟨Or.inl rfl, ⟨Or.inl rfl, ⟨Or.inl rfl, ⟨Or.inl rfl, trivial⟩⟩⟩⟩ ?_
      exact ok_X6_melt_15 hC hQ  h2 hV
set_option maxRecDepth 100000 in
set_option maxHeartbeats 4000000 in
theorem con_X6_melt {E : Ev} {l0 : Launch} (a0 : Nat) (a1 : Int32) (a2 : Int32) (a3 : Int32) (h : Hp) (K : Int32 → Hp → Prop) (hV : V_X6_melt a0 a1 a2 a3 h K) : Con E l0 yX6_melt cX6_melt 4 (some .int) rm_X6_melt [rv a0, .int a1, .int a2, .int a3] h (KI K) := by
  refine Con.of (by decide +kernel) (cat_R (cat_I (cat_I (cat_I cat_nil)))) (Nat.le_of_ble_eq_true rfl) (fun X hC hQ => ?_)
  refine r_sub (lo1 := [some (rv a0), some (.int a1), some (.int a2), some (.int a3)]) (show lsub [some (rv a0), some (.int a1), some (.int a2), some (.int a3)] _ from ⟨Or.inr rfl, ⟨Or.inr rfl, ⟨Or.inr rfl, ⟨Or.inr rfl, trivial⟩⟩⟩⟩) ?_
  exact ok_X6_melt_0 hC hQ a0 a1 a2 a3 h hV
theorem dX6_meltBox_0 : decode cX6_meltBox 0 = .ok (.aload_n 0, 1) := by decide +kernel
theorem dX6_meltBox_1 : decode cX6_meltBox 1 = .ok (.getfield 19, 3) := by decide +kernel
theorem dX6_meltBox_4 : decode cX6_meltBox 4 = .ok (.invokevirtual 89, 3) := by decide +kernel
theorem dX6_meltBox_7 : decode cX6_meltBox 7 = .ok (.istore_n 1, 1) := by decide +kernel
theorem dX6_meltBox_8 : decode cX6_meltBox 8 = .ok (.iload_n 1, 1) := by decide +kernel
theorem dX6_meltBox_9 : decode cX6_meltBox 9 = .ok (.ifCond .ne 6, 3) := by decide +kernel
theorem dX6_meltBox_12 : decode cX6_meltBox 12 = .ok (.bipush (-5), 2) := by decide +kernel
theorem dX6_meltBox_14 : decode cX6_meltBox 14 = .ok (.ireturn, 1) := by decide +kernel
theorem dX6_meltBox_15 : decode cX6_meltBox 15 = .ok (.aload_n 0, 1) := by decide +kernel
theorem dX6_meltBox_16 : decode cX6_meltBox 16 = .ok (.invokevirtual 55, 3) := by decide +kernel
theorem dX6_meltBox_19 : decode cX6_meltBox 19 = .ok (.aload_n 0, 1) := by decide +kernel
theorem dX6_meltBox_20 : decode cX6_meltBox 20 = .ok (.getfield 19, 3) := by decide +kernel
theorem dX6_meltBox_23 : decode cX6_meltBox 23 = .ok (.invokevirtual 93, 3) := by decide +kernel
theorem dX6_meltBox_26 : decode cX6_meltBox 26 = .ok (.istore_n 2, 1) := by decide +kernel
theorem dX6_meltBox_27 : decode cX6_meltBox 27 = .ok (.iload_n 2, 1) := by decide +kernel
theorem dX6_meltBox_28 : decode cX6_meltBox 28 = .ok (.bipush 50, 2) := by decide +kernel
theorem dX6_meltBox_30 : decode cX6_meltBox 30 = .ok (.idiv, 1) := by decide +kernel
theorem dX6_meltBox_31 : decode cX6_meltBox 31 = .ok (.istore_n 3, 1) := by decide +kernel
theorem dX6_meltBox_32 : decode cX6_meltBox 32 = .ok (.aload_n 0, 1) := by decide +kernel
theorem dX6_meltBox_33 : decode cX6_meltBox 33 = .ok (.getfield 19, 3) := by decide +kernel
theorem dX6_meltBox_36 : decode cX6_meltBox 36 = .ok (.invokevirtual 96, 3) := by decide +kernel
theorem dX6_meltBox_39 : decode cX6_meltBox 39 = .ok (.aload_n 0, 1) := by decide +kernel
theorem dX6_meltBox_40 : decode cX6_meltBox 40 = .ok (.getfield 19, 3) := by decide +kernel
theorem dX6_meltBox_43 : decode cX6_meltBox 43 = .ok (.dup, 1) := by decide +kernel
theorem dX6_meltBox_44 : decode cX6_meltBox 44 = .ok (.getfield 51, 3) := by decide +kernel
theorem dX6_meltBox_47 : decode cX6_meltBox 47 = .ok (.iload_n 2, 1) := by decide +kernel
theorem dX6_meltBox_48 : decode cX6_meltBox 48 = .ok (.iload_n 3, 1) := by decide +kernel
theorem dX6_meltBox_49 : decode cX6_meltBox 49 = .ok (.isub, 1) := by decide +kernel
theorem dX6_meltBox_50 : decode cX6_meltBox 50 = .ok (.iadd, 1) := by decide +kernel
theorem dX6_meltBox_51 : decode cX6_meltBox 51 = .ok (.putfield 51, 3) := by decide +kernel
theorem dX6_meltBox_54 : decode cX6_meltBox 54 = .ok (.aload_n 0, 1) := by decide +kernel
theorem dX6_meltBox_55 : decode cX6_meltBox 55 = .ok (.getfield 19, 3) := by decide +kernel
theorem dX6_meltBox_58 : decode cX6_meltBox 58 = .ok (.dup, 1) := by decide +kernel
theorem dX6_meltBox_59 : decode cX6_meltBox 59 = .ok (.getfield 99, 3) := by decide +kernel
theorem dX6_meltBox_62 : decode cX6_meltBox 62 = .ok (.iload_n 3, 1) := by decide +kernel
theorem dX6_meltBox_63 : decode cX6_meltBox 63 = .ok (.iadd, 1) := by decide +kernel
theorem dX6_meltBox_64 : decode cX6_meltBox 64 = .ok (.putfield 99, 3) := by decide +kernel
theorem dX6_meltBox_67 : decode cX6_meltBox 67 = .ok (.aload_n 0, 1) := by decide +kernel
theorem dX6_meltBox_68 : decode cX6_meltBox 68 = .ok (.getfield 19, 3) := by decide +kernel
theorem dX6_meltBox_71 : decode cX6_meltBox 71 = .ok (.dup, 1) := by decide +kernel
theorem dX6_meltBox_72 : decode cX6_meltBox 72 = .ok (.getfield 86, 3) := by decide +kernel
theorem dX6_meltBox_75 : decode cX6_meltBox 75 = .ok (.iload_n 1, 1) := by decide +kernel
theorem dX6_meltBox_76 : decode cX6_meltBox 76 = .ok (.iadd, 1) := by decide +kernel
theorem dX6_meltBox_77 : decode cX6_meltBox 77 = .ok (.putfield 86, 3) := by decide +kernel
theorem dX6_meltBox_80 : decode cX6_meltBox 80 = .ok (.iload_n 2, 1) := by decide +kernel
theorem dX6_meltBox_81 : decode cX6_meltBox 81 = .ok (.iload_n 3, 1) := by decide +kernel
theorem dX6_meltBox_82 : decode cX6_meltBox 82 = .ok (.isub, 1) := by decide +kernel
theorem dX6_meltBox_83 : decode cX6_meltBox 83 = .ok (.ireturn, 1) := by decide +kernel
def rm_X6_meltBox : Room := { frames := 3, cells := 4, slots := 226, locals := 68 }
set_option maxRecDepth 100000 in
set_option maxHeartbeats 4000000 in
theorem ok_X6_meltBox_0 {E : Ev} {X : Xt} {l0 : Launch} {K : Int32 → Hp → Prop} (hC : Cx E X l0 RX6 cX6_meltBox 4 rm_X6_meltBox) (hQ : CQ E X "meltBox" (some .int) rm_X6_meltBox (KI K)) (a0 : Nat) (h : Hp) (hV : V_X6_meltBox a0 h K) : WW E X h 0 0 0 [some (rv a0), none, none, none] [] := by
  unfold V_X6_meltBox at hV
  refine r_aload_n hC dX6_meltBox_0 rfl ?_
  obtain ⟨k9, hV⟩ := hV
  refine r_getR hC dX6_meltBox_1 fl_6_19 rf_6_1 lq_6 k9 ?_
  obtain ⟨k9, hV⟩ := hV
  refine r_callV (ci := 5) (As := []) hC dX6_meltBox_4 rfl cf_X5_wornPieces ml_6_89 im_X5_wornPieces sl_X5_wornPieces lq_5 rfl rfl k9 rfl ⟨(Nat.le_of_ble_eq_true rfl), (Nat.le_of_ble_eq_true rfl), (Nat.le_of_ble_eq_true rfl), (Nat.le_of_ble_eq_true rfl)⟩ cs0 (Nat.le_of_ble_eq_true rfl) (con_X5_wornPieces (hR h a0 1) h _ hV) rfl (kI (k := 0) (n := 0) (fun r1 h1 hV => ?_))
  refine r_istore_n (ii := 1) (lo1 := [some (rv a0), some (.int r1), none, none]) hC dX6_meltBox_7 rfl (Nat.le_of_ble_eq_true rfl) (pvR rfl) rfl ?_
  refine r_iload_n hC dX6_meltBox_8 rfl ?_
  refine r_if_ne (tgt := 15) hC dX6_meltBox_9 (by decide) (fun k9 => ?_) (fun k9 => ?_)
  · replace hV := hV.1 k9
    refine r_aload_n hC dX6_meltBox_15 rfl ?_
    obtain ⟨k9, hV⟩ := hV
    refine r_callV (ci := 6) (As := []) hC dX6_meltBox_16 rfl cf_X6_recordState ml_6_55 im_X6_recordState sl_X6_recordState lq_6 rfl rfl k9 rfl ⟨(Nat.le_of_ble_eq_true rfl), (Nat.le_of_ble_eq_true rfl), (Nat.le_of_ble_eq_true rfl), (Nat.le_of_ble_eq_true rfl)⟩ cs0 (Nat.le_of_ble_eq_true rfl) (con_X6_recordState a0 h1 _ hV) rfl (kV (k := 4) (n := 226) (fun h2 hV => ?_))
    refine r_aload_n hC dX6_meltBox_19 rfl ?_
    obtain ⟨k9, hV⟩ := hV
    refine r_getR hC dX6_meltBox_20 fl_6_19 rf_6_1 lq_6 k9 ?_
    obtain ⟨k9, hV⟩ := hV
    refine r_callV (ci := 5) (As := []) hC dX6_meltBox_23 rfl cf_X5_wornMetal ml_6_93 im_X5_wornMetal sl_X5_wornMetal lq_5 rfl rfl k9 rfl ⟨(Nat.le_of_ble_eq_true rfl), (Nat.le_of_ble_eq_true rfl), (Nat.le_of_ble_eq_true rfl), (Nat.le_of_ble_eq_true rfl)⟩ cs0 (Nat.le_of_ble_eq_true rfl) (con_X5_wornMetal (hR h2 a0 1) h2 _ hV) rfl (kI (k := 4) (n := 226) (fun r2 h3 hV => ?_))
    refine r_istore_n (ii := 2) (lo1 := [some (rv a0), some (.int r1), some (.int r2), none]) hC dX6_meltBox_26 rfl (Nat.le_of_ble_eq_true rfl) (pvI rfl) rfl ?_
    refine r_iload_n hC dX6_meltBox_27 rfl ?_
    refine r_bipush (v := 50) hC dX6_meltBox_28 (by decide) ?_
    refine r_idiv hC dX6_meltBox_30 (by decide) ?_
    refine r_istore_n (ii := 3) (lo1 := [some (rv a0), some (.int r1), some (.int r2), some (.int (r2 / 50))]) hC dX6_meltBox_31 rfl (Nat.le_of_ble_eq_true rfl) (pvI rfl) rfl ?_
    refine r_aload_n hC dX6_meltBox_32 rfl ?_
    obtain ⟨k9, hV⟩ := hV
    refine r_getR hC dX6_meltBox_33 fl_6_19 rf_6_1 lq_6 k9 ?_
    obtain ⟨k9, hV⟩ := hV
    refine r_callV (ci := 5) (As := []) hC dX6_meltBox_36 rfl cf_X5_emptyWornBox ml_6_96 im_X5_emptyWornBox sl_X5_emptyWornBox lq_5 rfl rfl k9 rfl ⟨(Nat.le_of_ble_eq_true rfl), (Nat.le_of_ble_eq_true rfl), (Nat.le_of_ble_eq_true rfl), (Nat.le_of_ble_eq_true rfl)⟩ cs0 (Nat.le_of_ble_eq_true rfl) (con_X5_emptyWornBox (hR h3 a0 1) h3 _ hV) rfl (kV (k := 4) (n := 226) (fun h4 hV => ?_))
    refine r_aload_n hC dX6_meltBox_39 rfl ?_
    obtain ⟨k9, hV⟩ := hV
    refine r_getR hC dX6_meltBox_40 fl_6_19 rf_6_1 lq_6 k9 ?_
    refine r_dup hC dX6_meltBox_43 (rv_cat _) ?_
    obtain ⟨k9, hV⟩ := hV
    refine r_getI hC dX6_meltBox_44 fl_6_51 rf_5_5 lq_5 k9 ?_
    refine r_iload_n hC dX6_meltBox_47 rfl ?_
    refine r_iload_n hC dX6_meltBox_48 rfl ?_
    refine r_isub hC dX6_meltBox_49 ?_
    refine r_iadd hC dX6_meltBox_50 ?_
    obtain ⟨k9, hV⟩ := hV
    refine r_putI hC dX6_meltBox_51 fl_6_51 ft_5 rfl rf_5_5 ty_5_5 lq_5 k9 (nmH (fun h5 k9 => ?_))
    replace hV := hV h5 k9
    refine r_aload_n hC dX6_meltBox_54 rfl ?_
    obtain ⟨k9, hV⟩ := hV
    refine r_getR hC dX6_meltBox_55 fl_6_19 rf_6_1 lq_6 k9 ?_
    refine r_dup hC dX6_meltBox_58 (rv_cat _) ?_
    obtain ⟨k9, hV⟩ := hV
    refine r_getI hC dX6_meltBox_59 fl_6_99 rf_5_8 lq_5 k9 ?_
    refine r_iload_n hC dX6_meltBox_62 rfl ?_
    refine r_iadd hC dX6_meltBox_63 ?_
    obtain ⟨k9, hV⟩ := hV
    refine r_putI hC dX6_meltBox_64 fl_6_99 ft_5 rfl rf_5_8 ty_5_8 lq_5 k9 (nmH (fun h6 k9 => ?_))
    replace hV := hV h6 k9
    refine r_aload_n hC dX6_meltBox_67 rfl ?_
    obtain ⟨k9, hV⟩ := hV
    refine r_getR hC dX6_meltBox_68 fl_6_19 rf_6_1 lq_6 k9 ?_
    refine r_dup hC dX6_meltBox_71 (rv_cat _) ?_
    obtain ⟨k9, hV⟩ := hV
    refine r_getI hC dX6_meltBox_72 fl_6_86 rf_5_10 lq_5 k9 ?_
    refine r_iload_n hC dX6_meltBox_75 rfl ?_
    refine r_iadd hC dX6_meltBox_76 ?_
    obtain ⟨k9, hV⟩ := hV
    refine r_putI hC dX6_meltBox_77 fl_6_86 ft_5 rfl rf_5_10 ty_5_10 lq_5 k9 (nmH (fun h7 k9 => ?_))
    replace hV := hV h7 k9
    refine r_iload_n hC dX6_meltBox_80 rfl ?_
    refine r_iload_n hC dX6_meltBox_81 rfl ?_
    refine r_isub hC dX6_meltBox_82 ?_
    exact r_iret hC hQ dX6_meltBox_83 (Nat.le_of_ble_eq_true rfl) (Nat.le_of_ble_eq_true rfl) ⟨_, rfl, hV⟩
  · replace hV := hV.2 k9
    refine r_bipush (v := (-5)) hC dX6_meltBox_12 (by decide) ?_
    exact r_iret hC hQ dX6_meltBox_14 (Nat.le_of_ble_eq_true rfl) (Nat.le_of_ble_eq_true rfl) ⟨_, rfl, hV⟩
set_option maxRecDepth 100000 in
set_option maxHeartbeats 4000000 in
theorem con_X6_meltBox {E : Ev} {l0 : Launch} (a0 : Nat) (h : Hp) (K : Int32 → Hp → Prop) (hV : V_X6_meltBox a0 h K) : Con E l0 yX6_meltBox cX6_meltBox 4 (some .int) rm_X6_meltBox [rv a0] h (KI K) := by
  refine Con.of (by decide +kernel) (cat_R cat_nil) (Nat.le_of_ble_eq_true rfl) (fun X hC hQ => ?_)
  refine r_sub (lo1 := [some (rv a0), none, none, none]) (show lsub [some (rv a0), none, none, none] _ from ⟨Or.inr rfl, ⟨Or.inr rfl, ⟨Or.inr rfl, ⟨Or.inr rfl, trivial⟩⟩⟩⟩) ?_
  exact ok_X6_meltBox_0 hC hQ a0 h hV
