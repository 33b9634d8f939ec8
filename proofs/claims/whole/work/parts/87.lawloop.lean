/-! the law: its loop, its start -/
set_option maxRecDepth 100000 in
set_option maxHeartbeats 4000000 in
theorem law_next {E : Ev} {X : Xt} {l0 : Launch} {b x m t k n : Nat} {h : Hp} (hC : Cx E X l0 RL cL_law 4 room_1) (kk : WW E X h k n 18 [some (rv (b + 1)), some (rv x), some (rv m), some (.int (nI (4 * (t + 1))))] []) : WW E X h k n 879 [some (rv (b + 1)), some (rv x), some (rv m), some (.int (nI (4 * t)))] [] := by
  refine r_iinc (v := 4) (lo1 := [some (rv (b + 1)), some (rv x), some (rv m), some (.int (nI (4 * (t + 1))))]) hC dL_law_879 rfl (by decide) ?_ ?_
  · show [some (rv (b + 1)), some (rv x), some (rv m), some (.int (nI (4 * t) + 4))] = _
    rw [show nI (4 * t) + 4 = nI (4 * (t + 1)) from nI_add (4 * t) 4]
  · exact r_goto (tgt := 18) hC dL_law_882 (by decide) kk
set_option maxRecDepth 100000 in
set_option maxHeartbeats 4000000 in
theorem law_loop {E : Ev} {X : Xt} {l0 : Launch} {b L x m : Nat} {xs : Nat → Int32} (hC : Cx E X l0 RL cL_law 4 room_1) (hS : SX E X b L xs) (hQ : LQ E X b) (hL : L ≤ 2048) : ∀ (d t k n : Nat) (h : Hp), t + d = 513 → INV h x m t → k ≤ 27 + 13 * t → n ≤ 25144 + 419 * t → WW E X h k n 18 [some (rv (b + 1)), some (rv x), some (rv m), some (.int (nI (4 * t)))] [] := by
  intro d
  induction d with
  | zero =>
    intro t k n h p1 I hk hn
    refine r_iload_n hC dL_law_18 rfl ?_
    refine r_aload_n hC dL_law_19 rfl ?_
    refine r_slen hC hS dL_law_20 ?_
    refine r_iconst (v := 4) hC dL_law_21 (by decide) ?_
    refine r_isub hC dL_law_22 ?_
    refine r_icmp_gt (tgt := 885) hC dL_law_23 (by decide) (fun k9 => ?_) (fun k9 => absurd ((l_gt hL (by omega)).mpr (by omega)) k9)
    refine r_iconst (v := 1) hC dL_law_885 (by decide) ?_
    exact r_lawret hC hQ dL_law_886 (by omega) (by omega)
  | succ d ih =>
    intro t k n h p1 I hk hn
    refine r_z0 (fun z0 => ?_)
    refine r_iload_n hC dL_law_18 rfl ?_
    refine r_aload_n hC dL_law_19 rfl ?_
    refine r_slen hC hS dL_law_20 ?_
    refine r_iconst (v := 4) hC dL_law_21 (by decide) ?_
    refine r_isub hC dL_law_22 ?_
    refine r_icmp_gt (tgt := 885) hC dL_law_23 (by decide) (fun k9 => ?_) (fun k9 => ?_)
    · refine r_iconst (v := 1) hC dL_law_885 (by decide) ?_
      exact r_lawret hC hQ dL_law_886 (by omega) (by omega)
    · have h4 : 4 * t + 4 ≤ L := Nat.not_lt.mp (fun z => k9 ((l_gt hL (by omega)).mpr z))
      refine r_aload_n hC dL_law_26 rfl ?_
      refine r_iload_n hC dL_law_27 rfl ?_
      refine r_sld hC hS dL_law_28 (vin (n := 4 * t) (by omega) (by omega)) ?_
      refine r_bipush (v := 31) hC dL_law_29 (by decide) ?_
      refine r_iand hC dL_law_31 ?_
      generalize xs (ix (nI (4 * t))) &&& 31 = v
      have hk1 : k + 13 ≤ 600000 := by omega
      have hn1 : n + 419 ≤ 7302250 := by omega
      have kk : ∀ h2, INV h2 x m (t + 1) → WW E X h2 (k + 13) (n + 419) 879 [some (rv (b + 1)), some (rv x), some (rv m), some (.int (nI (4 * t)))] [] := fun h2 I2 => law_next hC (ih (t + 1) (k + 13) (n + 419) h2 (by omega) I2 (by omega) (by omega))
      rcases (show v.toInt = 0 ∨ v.toInt = 1 ∨ v.toInt = 2 ∨ v.toInt = 3 ∨ v.toInt = 4 ∨ v.toInt = 5 ∨ v.toInt = 6 ∨ v.toInt = 7 ∨ v.toInt = 8 ∨ v.toInt = 9 ∨ v.toInt = 10 ∨ v.toInt = 11 ∨ v.toInt = 12 ∨ v.toInt = 13 ∨ v.toInt = 14 ∨ v.toInt = 15 ∨ v.toInt = 16 ∨ v.toInt = 17 ∨ v.toInt = 18 ∨ v.toInt = 19 ∨ v.toInt = 20 ∨ v.toInt = 21 ∨ v.toInt = 22 ∨ v.toInt = 23 ∨ v.toInt = 24 ∨ v.toInt = 25 ∨ v.toInt = 26 ∨ (v.toInt < 0 ∨ 26 < v.toInt) by omega) with k8 | k8 | k8 | k8 | k8 | k8 | k8 | k8 | k8 | k8 | k8 | k8 | k8 | k8 | k8 | k8 | k8 | k8 | k8 | k8 | k8 | k8 | k8 | k8 | k8 | k8 | k8 | k8
      · exact r_tabIn (tgt := 156) hC dL_law_32 0 (by omega) (by decide) rfl (by decide) (lc_0 hC hS h4 hL I z0 hk1 hn1 kk)
      · exact r_tabIn (tgt := 179) hC dL_law_32 1 (by omega) (by decide) rfl (by decide) (lc_1 hC hS h4 hL I z0 hk1 hn1 kk)
      · exact r_tabIn (tgt := 192) hC dL_law_32 2 (by omega) (by decide) rfl (by decide) (lc_2 hC hS h4 hL I z0 hk1 hn1 kk)
      · exact r_tabIn (tgt := 235) hC dL_law_32 3 (by omega) (by decide) rfl (by decide) (lc_3 hC hS h4 hL I z0 hk1 hn1 kk)
      · exact r_tabIn (tgt := 268) hC dL_law_32 4 (by omega) (by decide) rfl (by decide) (lc_4 hC hS h4 hL I z0 hk1 hn1 kk)
      · exact r_tabIn (tgt := 311) hC dL_law_32 5 (by omega) (by decide) rfl (by decide) (lc_5 hC hS h4 hL I z0 hk1 hn1 kk)
      · exact r_tabIn (tgt := 324) hC dL_law_32 6 (by omega) (by decide) rfl (by decide) (lc_6 hC hS h4 hL I z0 hk1 hn1 kk)
      · exact r_tabIn (tgt := 349) hC dL_law_32 7 (by omega) (by decide) rfl (by decide) (lc_7 hC hS h4 hL I z0 hk1 hn1 kk)
      · exact r_tabIn (tgt := 362) hC dL_law_32 8 (by omega) (by decide) rfl (by decide) (lc_8 hC hS h4 hL I z0 hk1 hn1 kk)
      · exact r_tabIn (tgt := 405) hC dL_law_32 9 (by omega) (by decide) rfl (by decide) (lc_9 hC hS h4 hL I z0 hk1 hn1 kk)
      · exact r_tabIn (tgt := 428) hC dL_law_32 10 (by omega) (by decide) rfl (by decide) (lc_10 hC hS h4 hL I z0 hk1 hn1 kk)
      · exact r_tabIn (tgt := 451) hC dL_law_32 11 (by omega) (by decide) rfl (by decide) (lc_11 hC hS h4 hL I z0 hk1 hn1 kk)
      · exact r_tabIn (tgt := 474) hC dL_law_32 12 (by omega) (by decide) rfl (by decide) (lc_12 hC hS h4 hL I z0 hk1 hn1 kk)
      · exact r_tabIn (tgt := 497) hC dL_law_32 13 (by omega) (by decide) rfl (by decide) (lc_13 hC hS h4 hL I z0 hk1 hn1 kk)
      · exact r_tabIn (tgt := 520) hC dL_law_32 14 (by omega) (by decide) rfl (by decide) (lc_14 hC hS h4 hL I z0 hk1 hn1 kk)
      · exact r_tabIn (tgt := 543) hC dL_law_32 15 (by omega) (by decide) rfl (by decide) (lc_15 hC hS h4 hL I z0 hk1 hn1 kk)
      · exact r_tabIn (tgt := 556) hC dL_law_32 16 (by omega) (by decide) rfl (by decide) (lc_16 hC hS h4 hL I z0 hk1 hn1 kk)
      · exact r_tabIn (tgt := 569) hC dL_law_32 17 (by omega) (by decide) rfl (by decide) (lc_17 hC hS h4 hL I z0 hk1 hn1 kk)
      · exact r_tabIn (tgt := 582) hC dL_law_32 18 (by omega) (by decide) rfl (by decide) (lc_18 hC hS h4 hL I z0 hk1 hn1 kk)
      · exact r_tabIn (tgt := 615) hC dL_law_32 19 (by omega) (by decide) rfl (by decide) (lc_19 hC hS h4 hL I z0 hk1 hn1 kk)
      · exact r_tabIn (tgt := 648) hC dL_law_32 20 (by omega) (by decide) rfl (by decide) (lc_20 hC hS h4 hL I z0 hk1 hn1 kk)
      · exact r_tabIn (tgt := 681) hC dL_law_32 21 (by omega) (by decide) rfl (by decide) (lc_21 hC hS h4 hL I z0 hk1 hn1 kk)
      · exact r_tabIn (tgt := 714) hC dL_law_32 22 (by omega) (by decide) rfl (by decide) (lc_22 hC hS h4 hL I z0 hk1 hn1 kk)
      · exact r_tabIn (tgt := 757) hC dL_law_32 23 (by omega) (by decide) rfl (by decide) (lc_23 hC hS h4 hL I z0 hk1 hn1 kk)
      · exact r_tabIn (tgt := 800) hC dL_law_32 24 (by omega) (by decide) rfl (by decide) (lc_24 hC hS h4 hL I z0 hk1 hn1 kk)
      · exact r_tabIn (tgt := 843) hC dL_law_32 25 (by omega) (by decide) rfl (by decide) (lc_25 hC hS h4 hL I z0 hk1 hn1 kk)
      · exact r_tabIn (tgt := 856) hC dL_law_32 26 (by omega) (by decide) rfl (by decide) (lc_26 hC hS h4 hL I z0 hk1 hn1 kk)
      · exact r_tabOut (tgt := 879) hC dL_law_32 k8 (by decide) (r_wide (k1 := k + 13) (n1 := n + 419) (by omega) (by omega) (kk h I.mono))
