/-! the law's method kept -/
section KEPT
variable {hh : Hp} {x k t nc nj d : Nat} {σ : Nat → Nat → Int32} {K : Int32 → Hp → Prop}
abbrev kpF (ρ : Row) (c s : Nat) : Nat → Int32 := fun j => fm ρ j c s
abbrev kpG (ρ : Row) (c s : Nat) : Nat → Int32 := fun j => fm ρ j c s * wd s
theorem kp_81 (B : BN (σ 0) t nc nj d) {C18 : Nat → Int32 → Int32 → Int32 → Int32 → Int32 → Int32 → Int32 → Hp → Prop} {C28 : Nat → Int32 → Int32 → Int32 → Int32 → Int32 → Int32 → Int32 → Int32 → Hp → Prop} {a1 a2 a3 a4 a5 a6 : Int32} {c s : Nat} (hc : c < nc) (hs : s < 29)
    (hC : ∀ h', Qh hh x σ k h' → C28 x a1 a2 a3 a4 (a5 + sm nj (kpF (σ 0) c s)) (a6 + sm nj (kpG (σ 0) c s)) (nI s) (nI (c + 1)) h') : ∀ (d j n : Nat) (h : Hp), j + d = nj → d < n → Qh hh x σ k h → V_L_kept_81 K C18 C28 n x a1 a2 a3 a4 (a5 + sm j (kpF (σ 0) c s)) (a6 + sm j (kpG (σ 0) c s)) (nI s) (nI c) (nI j) h := by
  have h12 := B.2.1
  intro d
  induction d with
  | zero =>
    intro j n h h1 h2 q
    obtain ⟨n, rfl⟩ : ∃ m, n = m + 1 := ⟨n - 1, by omega⟩
    obtain rfl : j = nj := by omega
    refine u_count q B 1 (fun h' q' => ?_)
    rw [cv_1, B.2.2.2.2.1, nI_1]
    exact ⟨fun _ => hC h' q', fun z => absurd (Int32.le_refl _) z⟩
  | succ d ih =>
    intro j n h h1 h2 q
    obtain ⟨n, rfl⟩ : ∃ m, n = m + 1 := ⟨n - 1, by omega⟩
    refine u_count q B 1 (fun h1 q1 => ?_)
    rw [cv_1, B.2.2.2.2.1, nle (by omega) (by omega)]
    refine ⟨fun z => absurd z (by omega), fun _ => u_taken q1 B (by omega) hc hs (fun h2 q2 => u_taken q2 B (by omega) hc hs (fun h3 q3 => w_width hs ?_))⟩
    rw [nI_1, Int32.add_assoc, Int32.add_assoc]
    exact ih (j + 1) n h3 (by omega) (by omega) q3
abbrev kpF2 (ρ : Row) (nj s : Nat) : Nat → Int32 := fun c => sm nj (kpF ρ c s)
abbrev kpG2 (ρ : Row) (nj s : Nat) : Nat → Int32 := fun c => sm nj (kpG ρ c s)
abbrev kpH (ρ : Row) (s : Nat) : Nat → Int32 := fun c => ρ (8 + 29 * c + s)
abbrev kpM (ρ : Row) (s : Nat) : Nat → Int32 := fun c => ρ (8 + 29 * c + s) * wd s
theorem kp_28 (B : BN (σ 0) t nc nj d) {C18 : Nat → Int32 → Int32 → Int32 → Int32 → Int32 → Int32 → Int32 → Hp → Prop} {a1 a2 a3 a4 a5 a6 : Int32} {s : Nat} (hs : s < 29)
    (hC : ∀ h', Qh hh x σ k h' → C18 x (a1 + sm nc (kpH (σ 0) s)) (a2 + sm nc (kpM (σ 0) s)) (a3 + σ 0 (182 + s)) (a4 + σ 0 (182 + s) * wd s) (a5 + sm nc (kpF2 (σ 0) nj s)) (a6 + sm nc (kpG2 (σ 0) nj s)) (nI (s + 1)) h') : ∀ (d c n : Nat) (h : Hp), c + d = nc → d < n → Qh hh x σ k h → V_L_kept_28 K C18 n x (a1 + sm c (kpH (σ 0) s)) (a2 + sm c (kpM (σ 0) s)) a3 a4 (a5 + sm c (kpF2 (σ 0) nj s)) (a6 + sm c (kpG2 (σ 0) nj s)) (nI s) (nI c) h := by
  have h6 := B.1
  intro d
  induction d with
  | zero =>
    intro c n h h1 h2 q
    obtain ⟨n, rfl⟩ : ∃ m, n = m + 1 := ⟨n - 1, by omega⟩
    obtain rfl : c = nc := by omega
    refine u_count q B 0 (fun h1 q1 => ?_)
    rw [cv_0, B.2.2.2.1]
    refine ⟨fun _ => u_pb q1 B hs (fun h2 q2 => u_pb q2 B hs (fun h3 q3 => w_width hs ?_)), fun z => absurd (Int32.le_refl _) z⟩
    rw [nI_1]; exact hC h3 q3
  | succ d ih =>
    intro c n h h1 h2 q
    obtain ⟨n, rfl⟩ : ∃ m, n = m + 1 := ⟨n - 1, by omega⟩
    refine u_count q B 0 (fun h1 q1 => ?_)
    rw [cv_0, B.2.2.2.1, nle (by omega) (by omega)]
    refine ⟨fun z => absurd z (by omega), fun _ => u_pc q1 B (by omega) hs (fun h2 q2 => w_width hs ?_)⟩
    obtain ⟨v, hv, ev⟩ := B.2.2.2.2.2.2.1 c s (by omega) hs
    refine ⟨fun z => ?_, fun _ => ⟨fun _ => ⟨nj + 1, ?_⟩, fun z => absurd (B.h99 c s (by omega) hs) z⟩⟩
    · rw [ev] at z; exact absurd z (cn0 (by omega))
    · have key := kp_81 (K := K) (C18 := C18) (C28 := V_L_kept_28 K C18 n) (a1 := a1 + sm c (kpH (σ 0) s) + σ 0 (8 + 29 * c + s)) (a2 := a2 + sm c (kpM (σ 0) s) + σ 0 (8 + 29 * c + s) * wd s) (a3 := a3) (a4 := a4) (a5 := a5 + sm c (kpF2 (σ 0) nj s)) (a6 := a6 + sm c (kpG2 (σ 0) nj s)) B (show c < nc by omega) hs (fun h' q' => by
        rw [Int32.add_assoc, Int32.add_assoc, Int32.add_assoc, Int32.add_assoc]
        exact ih (c + 1) n h' (by omega) (by omega) q') nj 0 (nj + 1) h2 (by omega) (by omega) q2
      rw [sm0, sm0, Int32.add_zero, Int32.add_zero] at key
      exact key
/-- what the sums come to -/
theorem kp_num (B : BN (σ 0) t nc nj d) (X : XC (σ 0) nj) :
    (σ 0 6 - σ 0 7 = (sm 29 (fun s => sm nc (kpH (σ 0) s)) + sm 29 (fun s => sm nc (kpF2 (σ 0) nj s))) + sm 29 (fun s => σ 0 (182 + s))) ∧ caseM (σ 0) nc = sm 29 (fun s => sm nc (kpM (σ 0) s)) ∧ formeM (σ 0) nc nj = sm 29 (fun s => sm nc (kpG2 (σ 0) nj s)) ∧
    σ 0 4 = (((σ 0 2 + sm 29 (fun s => sm nc (kpM (σ 0) s))) + sm 29 (fun s => sm nc (kpG2 (σ 0) nj s))) + sm 29 (fun s => σ 0 (182 + s) * wd s)) + σ 0 5 := by
  have e : ∀ s, s < 29 → tS (σ 0) nj s = sm nc (kpH (σ 0) s) + sm nc (kpF2 (σ 0) nj s) + σ 0 (182 + s) := fun s hs => by
    unfold tS
    rw [sm_ext (f := fun c => σ 0 (8 + 29 * c + s)) B.1 (fun c a b => B.2.2.2.2.2.2.2.1 c s a b hs), show sm nc (kpF2 (σ 0) nj s) = sm nj (fun j => sm nc (fun c => fm (σ 0) j c s)) from sm_swap nc nj (fun c j => fm (σ 0) j c s), sm_congr (f := fun j => sm 6 (fun c => fm (σ 0) j c s)) (g := fun j => sm nc (fun c => fm (σ 0) j c s)) (fun j hj => sm_ext B.1 (fun c a b => B.z2 j c s hj a b hs))]
  have eM : caseM (σ 0) nc = sm 29 (fun s => sm nc (kpM (σ 0) s)) := sm_swap nc 29 (fun c s => σ 0 (8 + 29 * c + s) * wd s)
  have eG : formeM (σ 0) nc nj = sm 29 (fun s => sm nc (kpG2 (σ 0) nj s)) := by
    unfold formeM
    rw [sm_congr (g := fun j => sm 29 (fun s => sm nc (fun c => fm (σ 0) j c s * wd s))) (fun j hj => sm_swap nc 29 _), sm_swap nj 29]
    exact sm_congr (fun s hs => sm_swap nj nc _)
  refine ⟨?_, eM, eG, ?_⟩
  · rw [X.1, sm_congr e, sm_add, sm_add]
  · rw [X.2, sm_congr (f := fun s => tS (σ 0) nj s * wd s) (g := fun s => sm nc (kpM (σ 0) s) + sm nc (kpG2 (σ 0) nj s) + σ 0 (182 + s) * wd s) (fun s hs => by
      rw [e s hs, Int32.add_mul, Int32.add_mul, show sm nc (kpM (σ 0) s) = sm nc (kpH (σ 0) s) * wd s from sm_mul nc _ _, show sm nc (kpG2 (σ 0) nj s) = sm nc (kpF2 (σ 0) nj s) * wd s from by
        rw [← sm_mul]; exact sm_congr (fun c hc => sm_mul nj _ _)]), sm_add, sm_add]
    grind
theorem kp_18 (B : BN (σ 0) t nc nj d) (X : XC (σ 0) nj) (hK : ∀ h', Qh hh x σ k h' → K 1 h') : ∀ (d s n : Nat) (h : Hp), s + d = 29 → d < n → Qh hh x σ k h → V_L_kept_18 K n x (sm s (fun s => sm nc (kpH (σ 0) s))) (sm s (fun s => sm nc (kpM (σ 0) s))) (sm s (fun s => σ 0 (182 + s))) (sm s (fun s => σ 0 (182 + s) * wd s)) (sm s (fun s => sm nc (kpF2 (σ 0) nj s))) (sm s (fun s => sm nc (kpG2 (σ 0) nj s))) (nI s) h := by
  have h6 := B.1
  intro d
  induction d with
  | zero =>
    intro s n h h1 h2 q
    obtain ⟨n, rfl⟩ : ∃ m, n = m + 1 := ⟨n - 1, by omega⟩
    obtain rfl : s = 29 := by omega
    obtain ⟨n1, n2, n3, n4⟩ := kp_num B X
    refine ⟨fun _ => u_count q B 8 (fun h1 q1 => u_count q1 B 9 (fun h2 q2 => ?_)), fun z => absurd (by decide) z⟩
    rw [cv_8, cv_9]
    refine ⟨fun z => absurd n1 z, fun _ => u_count q2 B 10 (fun h3 q3 => ⟨fun z => absurd cv_10 z, fun _ => u_count q3 B 5 (fun h4 q4 => ⟨fun z => absurd cv_5 z, fun _ => u_count q4 B 4 (fun h5 q5 => ⟨fun z => absurd (cv_4.trans n3) z, fun _ => u_count q5 B 3 (fun h6 q6 => ⟨fun z => absurd (cv_3.trans n2) z, fun _ => ?_⟩)⟩)⟩)⟩)⟩
    refine ⟨fun z => absurd z (by decide), fun _ => u_count q6 B 6 (fun h7 q7 => u_count q7 B 2 (fun h8 q8 => u_count q8 B 7 (fun h9 q9 => ?_)))⟩
    rw [cv_6, cv_2, cv_7]
    refine ⟨fun z => absurd n4 z, fun _ => u_count q9 B 0 (fun ha qa => ?_)⟩
    rw [cv_0, B.2.2.2.1]
    exact u_p0 qa B (fun hb qb => ⟨fun z => absurd rfl z, fun _ => u_p29 qb B (fun hc qc => ⟨fun z => absurd rfl z, fun _ => ⟨Or.inr rfl, hK hc qc⟩⟩)⟩)
  | succ d ih =>
    intro s n h h1 h2 q
    obtain ⟨n, rfl⟩ : ∃ m, n = m + 1 := ⟨n - 1, by omega⟩
    unfold V_L_kept_18
    rw [c29 (by omega)]
    refine ⟨fun z => absurd z (by omega), fun _ => ⟨nc + 1, ?_⟩⟩
    have key := kp_28 (K := K) (C18 := V_L_kept_18 K n) (a1 := sm s (fun s => sm nc (kpH (σ 0) s))) (a2 := sm s (fun s => sm nc (kpM (σ 0) s))) (a3 := sm s (fun s => σ 0 (182 + s))) (a4 := sm s (fun s => σ 0 (182 + s) * wd s)) (a5 := sm s (fun s => sm nc (kpF2 (σ 0) nj s))) (a6 := sm s (fun s => sm nc (kpG2 (σ 0) nj s))) B (show s < 29 by omega) (fun h' q' => ih (s + 1) n h' (by omega) (by omega) q') nc 0 (nc + 1) h (by omega) (by omega) q
    rw [sm0, sm0, sm0, sm0, Int32.add_zero, Int32.add_zero, Int32.add_zero, Int32.add_zero] at key
    exact key
theorem w_kept {h : Hp} (q : Qh hh x σ k h) (I : IV (σ 0) t nc nj) (hK : ∀ h', Qh hh x σ k h' → K 1 h') : V_L_kept x h K := by
  obtain ⟨⟨d, B⟩, X, -⟩ := I
  exact ⟨30, kp_18 B X hK 29 0 30 h rfl (by decide) q⟩
end KEPT
/-! the law's method accounts -/
section ACC
variable {hh : Hp} {x k t nc nj d : Nat} {σ : Nat → Nat → Int32} {K : Int32 → Hp → Prop}
theorem urg_or (ρ : Row) : ∀ j, urg ρ j = -5 ∨ ∃ i, i < j ∧ urg ρ j = nI i := by
  intro j
  induction j with
  | zero => exact Or.inl rfl
  | succ j ih =>
    have ih' : urg ρ j = -5 ∨ ∃ i, i < j + 1 ∧ urg ρ j = nI i := ih.imp id (fun ⟨i, a, b⟩ => ⟨i, by omega, b⟩)
    unfold urg
    split
    · exact ih'
    · split
      · exact Or.inr ⟨j, by omega, rfl⟩
      · split
        · exact ih'
        · exact Or.inr ⟨j, by omega, rfl⟩
abbrev acL (ρ : Row) : Nat → Int32 := fun j => if jb ρ j 5 ≤ 0 then 0 else jb ρ j 5
abbrev acP (ρ : Row) : Nat → Int32 := fun j => if jb ρ j 3 < 0 ∨ 1 < jb ρ j 3 then 0 else if ρ 3 ≤ jb ρ j 2 then 0 else 1
theorem ac_91 (B : BN (σ 0) t nc nj d) {C : Nat → Int32 → Int32 → Int32 → Int32 → Hp → Prop} {a1 s0 s1 : Int32} {j : Nat} (hj : j < nj) {o : Bool} (ho : (jb (σ 0) j 3 < 0 ∨ 1 < jb (σ 0) j 3) ↔ o = false) {h : Hp} (q : Qh hh x σ k h) (hC : ∀ h', Qh hh x σ k h' → C x a1 (s0 + s1) (urg (σ 0) (j + 1)) (nI (j + 1)) h') : V_L_accounts_91 K C x a1 (urg (σ 0) j) (nI j) (if o = true then 1 else 0) s0 s1 h := by
  have h12 := B.2.1
  have e : urg (σ 0) (j + 1) = if jb (σ 0) j 3 < 0 ∨ 1 < jb (σ 0) j 3 then urg (σ 0) j else if urg (σ 0) j = -5 then nI j else if jb (σ 0) (ix (urg (σ 0) j)) 2 ≤ jb (σ 0) j 2 then urg (σ 0) j else nI j := rfl
  unfold V_L_accounts_91 V_L_accounts_123 V_L_accounts_118 V_L_accounts_124
  rw [nI_1]
  refine ⟨fun z => ?_, fun z => ⟨fun z2 => ?_, fun z2 => ?_⟩⟩
  · have of : o = false := by cases o with
      | false => rfl
      | true => exact absurd z (by decide)
    rw [if_pos (ho.mpr of)] at e
    rw [← e]; exact hC h q
  · have ot : ¬ (jb (σ 0) j 3 < 0 ∨ 1 < jb (σ 0) j 3) := fun w => by rw [ho.mp w] at z; exact z rfl
    rw [if_neg ot] at e
    rcases urg_or (σ 0) j with u | ⟨i, i1, i2⟩
    · rw [if_pos u] at e
      have := hC h q
      rwa [e] at this
    · rw [i2] at z2; exact absurd z2 (cn0 (by omega))
  · have ot : ¬ (jb (σ 0) j 3 < 0 ∨ 1 < jb (σ 0) j 3) := fun w => by rw [ho.mp w] at z; exact z rfl
    rw [if_neg ot] at e
    rcases urg_or (σ 0) j with u | ⟨i, i1, i2⟩
    · rw [u] at z2; exact absurd (by decide) z2
    · rw [i2] at e ⊢
      rw [if_neg (fun w => cn0 (i := i) (by omega) (by rw [w]; decide)), ix_nI (by omega)] at e
      refine u_job q B hj 2 (fun h1 q1 => u_job q1 B (show i < nj by omega) 2 (fun h2 q2 => ?_))
      have c := hC h2 q2
      rw [jv_2, jv_2]
      refine ⟨fun w => ?_, fun w => ?_⟩
      · rw [if_pos w] at e; rwa [e] at c
      · rw [if_neg w] at e; rwa [e] at c
theorem ac_62 (B : BN (σ 0) t nc nj d) {C : Nat → Int32 → Int32 → Int32 → Int32 → Hp → Prop} {s0 s1 a2 : Int32} {j : Nat} (hj : j < nj) {o : Bool} (ho : (jb (σ 0) j 3 < 0 ∨ 1 < jb (σ 0) j 3) ↔ o = false) {h : Hp} (q : Qh hh x σ k h) (hC : ∀ h', Qh hh x σ k h' → C x (s0 + s1) (a2 + acP (σ 0) j) (urg (σ 0) (j + 1)) (nI (j + 1)) h') : V_L_accounts_62 K C x a2 (urg (σ 0) j) (nI j) (if o = true then 1 else 0) s0 s1 h := by
  unfold V_L_accounts_62 V_L_accounts_90
  have hp : acP (σ 0) j = if jb (σ 0) j 3 < 0 ∨ 1 < jb (σ 0) j 3 then 0 else if (σ 0) 3 ≤ jb (σ 0) j 2 then 0 else 1 := rfl
  refine ⟨fun z => ac_91 B hj ho q ?_, fun z => u_job q B hj 2 (fun h1 q1 => u_count q1 B 11 (fun h2 q2 => ?_))⟩
  · have of : o = false := by cases o with
      | false => rfl
      | true => exact absurd z (by decide)
    rw [if_pos (ho.mpr of)] at hp
    rw [hp] at hC; exact hC
  · have ot : ¬ (jb (σ 0) j 3 < 0 ∨ 1 < jb (σ 0) j 3) := fun w => by rw [ho.mp w] at z; exact z rfl
    rw [if_neg ot] at hp
    rw [jv_2, cv_11]
    refine ⟨fun w => ac_91 B hj ho q2 ?_, fun w => ac_91 B hj ho q2 ?_⟩
    · rw [if_pos w] at hp; rw [hp] at hC; exact hC
    · rw [if_neg w] at hp; rw [hp] at hC; exact hC
theorem ac_36 (B : BN (σ 0) t nc nj d) {C : Nat → Int32 → Int32 → Int32 → Int32 → Hp → Prop} {a1 a2 : Int32} {j : Nat} (hj : j < nj) {o : Bool} (ho : (jb (σ 0) j 3 < 0 ∨ 1 < jb (σ 0) j 3) ↔ o = false) {h : Hp} (q : Qh hh x σ k h) (hC : ∀ h', Qh hh x σ k h' → C x (a1 + acL (σ 0) j) (a2 + acP (σ 0) j) (urg (σ 0) (j + 1)) (nI (j + 1)) h') : V_L_accounts_36 K C x a1 a2 (urg (σ 0) j) (nI j) (if o = true then 1 else 0) h := by
  have hp : acL (σ 0) j = if jb (σ 0) j 5 ≤ 0 then 0 else jb (σ 0) j 5 := rfl
  refine u_job q B hj 10 (fun h1 q1 => ?_)
  rw [jv_10]
  refine ⟨fun w => ac_62 B hj ho q1 ?_, fun w => u_job q1 B hj 10 (fun h2 q2 => ?_)⟩
  · rw [if_pos w] at hp; rw [hp] at hC; exact hC
  · rw [jv_10]
    rw [if_neg w] at hp; rw [hp] at hC
    exact ac_62 B hj ho q2 hC
theorem ac_10 (I : IV (σ 0) t nc nj) (hK : ∀ h', Qh hh x σ k h' → K 1 h') : ∀ (d j n : Nat) (h : Hp), j + d = nj → d < n → Qh hh x σ k h → V_L_accounts_10 K n x (sm j (acL (σ 0))) (sm j (acP (σ 0))) (urg (σ 0) j) (nI j) h := by
  obtain ⟨⟨d0, B⟩, -, XJs⟩ := I
  have h12 := B.2.1
  intro d
  induction d with
  | zero =>
    intro j n h h1 h2 q
    obtain ⟨n, rfl⟩ : ∃ m, n = m + 1 := ⟨n - 1, by omega⟩
    obtain rfl : j = nj := by omega
    refine u_count q B 1 (fun h1 q1 => ?_)
    rw [cv_1, B.2.2.2.2.1]
    refine ⟨fun _ => u_count q1 B 12 (fun h2 q2 => ⟨fun z => absurd cv_12 z, fun _ => u_count q2 B 13 (fun h3 q3 => ⟨fun z => absurd cv_13 z, fun _ => u_urgent q3 B (fun h4 q4 => ⟨fun z => absurd rfl z, fun _ => u_count q4 B 1 (fun h5 q5 => ?_)⟩)⟩)⟩), fun z => absurd (Int32.le_refl _) z⟩
    rw [cv_1, B.2.2.2.2.1]
    exact u_jobN q5 B 0 (fun h6 q6 => ⟨fun z => absurd rfl z, fun _ => u_count q6 B 16 (fun h7 q7 => ⟨fun z => absurd cv_16 z, fun _ => ⟨Or.inr rfl, hK h7 q7⟩⟩)⟩)
  | succ d ih =>
    intro j n h h1 h2 q
    obtain ⟨n, rfl⟩ : ∃ m, n = m + 1 := ⟨n - 1, by omega⟩
    refine u_count q B 1 (fun h1 q1 => ?_)
    rw [cv_1, B.2.2.2.2.1, nle (by omega) (by omega)]
    refine ⟨fun z => absurd z (by omega), fun _ => u_job q1 B (by omega) 3 (fun h2 q2 => ?_)⟩
    obtain ⟨st, s1, s2, -⟩ := XJs j (by omega)
    rw [jv_3, s2, c2 (by omega)]
    have go : ∀ h', Qh hh x σ k h' → V_L_accounts_10 K n x (sm j (acL (σ 0)) + acL (σ 0) j) (sm j (acP (σ 0)) + acP (σ 0) j) (urg (σ 0) (j + 1)) (nI (j + 1)) h' := fun h' q' => ih (j + 1) n h' (by omega) (by omega) q'
    have l1 : (1 : Int32) < nI st ↔ 1 < st := nI_ltI (a := 1) (by decide) (by omega)
    refine ⟨fun z => ac_36 (o := false) B (by omega) ?_ q2 go, fun z => ac_36 (o := true) B (by omega) ?_ q2 go⟩
    · rw [s2, l1]; exact ⟨fun _ => rfl, fun _ => Or.inr (by omega)⟩
    · rw [s2, l1]; exact ⟨fun w => w.elim (fun w => absurd w (cn0 (by omega))) (fun w => by omega), fun w => by cases w⟩
theorem w_accounts {h : Hp} (q : Qh hh x σ k h) (I : IV (σ 0) t nc nj) (hK : ∀ h', Qh hh x σ k h' → K 1 h') : V_L_accounts x h K := ⟨nj + 1, ac_10 I hK nj 0 (nj + 1) h (by omega) (by omega) q⟩
end ACC
