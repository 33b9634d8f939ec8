/-! the class's sums over jobs -/
section CCNT
variable {h : Hp} {x : Nat} {σ : Nat → Nat → Int32} {k : Nat} {K : Int32 → Hp → Prop}
theorem sm_min {nj i : Nat} (T : Nat → Int32) : sm (min (i + 1) nj) T = if i < nj then sm (min i nj) T + T i else sm (min i nj) T := by
  by_cases e : i < nj
  · rw [if_pos e, show min (i + 1) nj = i + 1 by omega, show min i nj = i by omega, smS]
  · rw [if_neg e, show min (i + 1) nj = min i nj by omega]
/-- a job by its number, in a loop -/
theorem k_find (C : CR h x σ k) {nj : Nat} (hj : σ 0 1 = nI nj) (h12 : nj ≤ 12) {i : Nat} (hi : i < 12) {K : Nat → Hp → Prop} (bad : ¬ i < nj → K 0 h) (good : i < nj → JobR h (σ 0) i (hR h (hR h (hR h x 1) 2) i) → hR h (hR h (hR h x 1) 2) i ≠ 0 → K (hR h (hR h (hR h x 1) 2) i) h) : V_X5_findJob (hR h x 1) (nI i) h K := by
  refine k_findJob C hj h12 (nI i) (fun hb => bad ?_) (fun j j1 j2 ja hb hbi jt J J0 => ?_)
  · unfold badJ at hb
    rw [hj, ltN _ (by omega), nle (by omega) (by omega)] at hb
    have := hb.elim (fun z => absurd z (cn0 (by omega))) id
    omega
  · obtain rfl : i = j := by rw [ix_nI (by omega)] at hbi; exact hbi
    exact good j1 J J0
theorem k_mif (C : CR h x σ k) {nj : Nat} (hj : σ 0 1 = nI nj) (h12 : nj ≤ 12) (hO : K (sm nj (fun j => sm 29 (fun s => sm 6 (fun c => fm (σ 0) j c s) * wd s))) h) : V_X5_metalInFormes (hR h x 1) h K := by
  have key : ∀ (d i n : Nat), i + d = 12 → d < n → V_X5_metalInFormes_4 K n (hR h x 1) (sm (min i nj) (fun j => sm 29 (fun s => sm 6 (fun c => fm (σ 0) j c s) * wd s))) (nI i) h := by
    intro d
    induction d with
    | zero =>
      intro i n p1 p2
      obtain ⟨n, rfl⟩ : ∃ k, n = k + 1 := ⟨n - 1, by omega⟩
      obtain rfl : i = 12 := by omega
      rw [Nat.min_eq_right h12]
      exact ⟨fun _ => hO, fun z => absurd (by decide) z⟩
    | succ d ih =>
      intro i n p1 p2
      obtain ⟨n, rfl⟩ : ∃ k, n = k + 1 := ⟨n - 1, by omega⟩
      have go := ih (i + 1) n (by omega) (by omega)
      rw [sm_min] at go
      unfold V_X5_metalInFormes_4 V_X5_metalInFormes_27
      rw [c12 (by omega), nI_1]
      refine ⟨fun z => absurd z (by omega), fun _ => ⟨C.n.2.1, k_find C hj h12 (show i < 12 by omega) (fun hb => ?_) (fun hb J J0 => ?_)⟩⟩
      · rw [if_neg hb] at go
        exact ⟨fun _ => go, fun z => absurd rfl z⟩
      · rw [if_pos hb] at go
        exact ⟨fun z => absurd z J0, fun _ => ⟨J.1, k_formeMetal J go⟩⟩
  have := key 12 0 13 rfl (by decide)
  rw [Nat.zero_min] at this
  exact ⟨13, this⟩
theorem k_adl (C : CR h x σ k) {nj : Nat} (hj : σ 0 1 = nI nj) (h12 : nj ≤ 12) (hO : K (sm nj (fun j => if jb (σ 0) j 4 = -5 then 0 else lateC (σ 0) j)) h) : V_X5_allDaysLate (hR h x 1) h K := by
  have key : ∀ (d i n : Nat), i + d = 12 → d < n → V_X5_allDaysLate_4 K n (hR h x 1) (sm (min i nj) (fun j => if jb (σ 0) j 4 = -5 then 0 else lateC (σ 0) j)) (nI i) h := by
    intro d
    induction d with
    | zero =>
      intro i n p1 p2
      obtain ⟨n, rfl⟩ : ∃ k, n = k + 1 := ⟨n - 1, by omega⟩
      obtain rfl : i = 12 := by omega
      rw [Nat.min_eq_right h12]
      exact ⟨fun _ => hO, fun z => absurd (by decide) z⟩
    | succ d ih =>
      intro i n p1 p2
      obtain ⟨n, rfl⟩ : ∃ k, n = k + 1 := ⟨n - 1, by omega⟩
      have go := ih (i + 1) n (by omega) (by omega)
      rw [sm_min] at go
      unfold V_X5_allDaysLate_4 V_X5_allDaysLate_36
      rw [c12 (by omega), nI_1]
      refine ⟨fun z => absurd z (by omega), fun _ => ⟨C.n.2.1, k_find C hj h12 (show i < 12 by omega) (fun hb => ?_) (fun hb J J0 => ?_)⟩⟩
      · rw [if_neg hb] at go
        exact ⟨fun _ => go, fun z => absurd rfl z⟩
      · rw [if_pos hb] at go
        refine ⟨fun z => absurd z J0, fun _ => ⟨J.1, ?_⟩⟩
        rw [J.2.2.2.1]
        refine ⟨fun z => ?_, fun z => ⟨J.1, (k_daysLate J).mpr ?_⟩⟩
        · rw [if_pos z, Int32.add_zero] at go; exact go
        · rw [if_neg z] at go; exact go
  have := key 12 0 13 rfl (by decide)
  rw [Nat.zero_min] at this
  exact ⟨13, this⟩
theorem k_ovd (C : CR h x σ k) {nj : Nat} (hj : σ 0 1 = nI nj) (h12 : nj ≤ 12) (hO : K (pastD (σ 0) nj) h) : V_X5_overdueJobs (hR h x 1) h K := by
  have key : ∀ (d i n : Nat), i + d = 12 → d < n → V_X5_overdueJobs_4 K n (hR h x 1) (sm (min i nj) (fun j => if jb (σ 0) j 3 < 0 ∨ 1 < jb (σ 0) j 3 then 0 else if σ 0 3 ≤ jb (σ 0) j 2 then 0 else 1)) (nI i) h := by
    intro d
    induction d with
    | zero =>
      intro i n p1 p2
      obtain ⟨n, rfl⟩ : ∃ k, n = k + 1 := ⟨n - 1, by omega⟩
      obtain rfl : i = 12 := by omega
      rw [Nat.min_eq_right h12]
      exact ⟨fun _ => hO, fun z => absurd (by decide) z⟩
    | succ d ih =>
      intro i n p1 p2
      obtain ⟨n, rfl⟩ : ∃ k, n = k + 1 := ⟨n - 1, by omega⟩
      have go := ih (i + 1) n (by omega) (by omega)
      rw [sm_min] at go
      unfold V_X5_overdueJobs_4 V_X5_overdueJobs_44
      rw [c12 (by omega), nI_1]
      refine ⟨fun z => absurd z (by omega), fun _ => ⟨C.n.2.1, k_find C hj h12 (show i < 12 by omega) (fun hb => ?_) (fun hb J J0 => ?_)⟩⟩
      · rw [if_neg hb] at go
        exact ⟨fun _ => go, fun z => absurd rfl z⟩
      · rw [if_pos hb] at go
        refine ⟨fun z => absurd z J0, fun _ => ⟨J.1, ?_⟩⟩
        rw [k_isOpen J]
        by_cases b : jb (σ 0) i 3 < 0 ∨ 1 < jb (σ 0) i 3
        · rw [if_pos b, Int32.add_zero] at go
          rw [if_neg (fun z => (v01 _).mp z b)]
          exact ⟨fun _ => go, fun z => absurd rfl z⟩
        · rw [if_neg b] at go
          rw [if_pos ((v01 _).mpr b), J.2.1.2.2.2.1, show hI h (hR h x 1) 6 = σ 0 3 from C.n.2.2 3 (by decide)]
          refine ⟨fun z => absurd z ne01, fun _ => ⟨J.1, J.2.1.1, C.n.2.1, fun z => ?_, fun z => ?_⟩⟩
          · rw [if_pos z, Int32.add_zero] at go; exact go
          · rw [if_neg z] at go; exact go
  have := key 12 0 13 rfl (by decide)
  rw [Nat.zero_min] at this
  exact ⟨13, this⟩
end CCNT
