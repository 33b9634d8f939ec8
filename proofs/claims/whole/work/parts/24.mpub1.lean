/-! the reference's calls: metal and cases -/
theorem LT : (vp_in 0 3475 ∧ vp_in 1 3475 ∧ vp_in 2 3475 ∧ vp_in 3 3475 ∧ vp_in 4 3475 ∧ vp_in 5 3475 ∧ vp_in 6 3475 ∧ vp_in 7 3475) ∧ ix 0 = 0 ∧ ix 1 = 1 ∧ ix 2 = 2 ∧ ix 3 = 3 ∧ ix 4 = 4 ∧ ix 5 = 5 ∧ ix 6 = 6 ∧ ix 7 = 7 :=
  ⟨⟨vin (n := 0) (by decide) (by decide), vin (n := 1) (by decide) (by decide), vin (n := 2) (by decide) (by decide), vin (n := 3) (by decide) (by decide), vin (n := 4) (by decide) (by decide), vin (n := 5) (by decide) (by decide), vin (n := 6) (by decide) (by decide), vin (n := 7) (by decide) (by decide)⟩, rfl, rfl, rfl, rfl, rfl, rfl, rfl, rfl⟩
theorem ne01 : ¬ (1 : Int32) = 0 := by decide
section MPUB
variable {h0 h : Hp} {m : Nat} {σ : Nat → Nat → Int32} {K : Int32 → Hp → Prop} {k : Nat}
theorem m_buy (x : MB h0 m σ h) (hk : k ≤ 5) (hk2 : σ 2 0 = nI k) (a : Int32) (hO : OM h0 m σ k K (sp_buy (σ 0) a)) : V_X7_buy m a h K := by
  unfold V_X7_buy
  rw [s_in]
  unfold sp_buy at hO
  by_cases b : a < 1 ∨ 20000 < a
  · rw [if_pos b] at hO ⊢
    exact ⟨fun q => absurd rfl q, fun _ => hO.no x Idle.rf⟩
  · rw [if_neg b] at hO ⊢
    refine ⟨fun _ => ?_, fun q => absurd q ne01⟩
    simp only [x.s, LT, true_and]
    refine ⟨fun c => ?_, fun c => ?_⟩
    · rw [if_pos c] at hO
      refine s_record x hk hk2 (fun h1 σ1 x1 r1 => ?_)
      simp only [x1.s, LT, true_and]
      intro h2 e2
      have x2 := x1.pa 0 rfl e2
      simp only [x2.s, LT, true_and]
      intro h3 e3
      have x3 := x2.pa 0 rfl e3
      simp only [x3.s, LT, true_and]
      have e0 := r1.1 0 (by decide) (by decide)
      simp only [up_e, true_and, e0]
      simp only [show ¬ (2 : Nat) = 4 by decide, if_false, if_true]
      refine hO.did x3 (Act.of r1 (fun f h1 h6 => by funext j; rw [up_f (by omega), up_f (by omega)]) ?_)
      rw [up0, up0, e0, ur_n (show (4 : Nat) ≠ 2 by decide)]
    · rw [if_neg c] at hO
      exact hO.no x Idle.rf
theorem m_addCase (x : MB h0 m σ h) (hk : k ≤ 5) (hk2 : σ 2 0 = nI k) (hO : OM h0 m σ k K (sp_addCase (σ 0))) : V_X7_addCase m h K := by
  unfold V_X7_addCase
  unfold sp_addCase at hO
  simp only [x.s, LT, true_and]
  refine ⟨fun c => ?_, fun c => ?_⟩
  · rw [if_neg c] at hO
    refine s_record x hk hk2 (fun h1 σ1 x1 r1 => ?_)
    simp only [x1.s, LT, true_and]
    intro h2 e2
    have x2 := x1.pa 0 rfl e2
    have e0 := r1.1 0 (by decide) (by decide)
    simp only [x2.s, LT, true_and, up_e, if_true, e0]
    rw [show σ 0 0 + 1 - 1 = σ 0 0 from Int32.add_sub_cancel _ _]
    refine hO.did x2 (Act.of r1 (fun f h1 h6 => by funext j; rw [up_f (by omega)]) ?_)
    rw [up0, e0]
  · rw [if_pos c] at hO
    exact hO.no x Idle.rf
theorem m_pass (x : MB h0 m σ h) (hk : k ≤ 5) (hk2 : σ 2 0 = nI k) (a : Int32) (hO : OM h0 m σ k K (sp_pass (σ 0) a)) : V_X7_pass m a h K := by
  unfold V_X7_pass
  rw [s_in]
  unfold sp_pass at hO
  by_cases b : a < 1 ∨ 30 < a
  · rw [if_pos b] at hO ⊢
    exact ⟨fun q => absurd rfl q, fun _ => hO.no x Idle.rf⟩
  · rw [if_neg b] at hO ⊢
    refine ⟨fun _ => ?_, fun q => absurd q ne01⟩
    simp only [x.s, true_and]
    refine s_record x hk hk2 (fun h1 σ1 x1 r1 => ?_)
    simp only [x1.s, LT, true_and]
    intro h2 e2
    have x2 := x1.pa 0 rfl e2
    have e0 := r1.1 0 (by decide) (by decide)
    simp only [x2.s, LT, true_and, up_e, if_true, e0]
    refine hO.did x2 (Act.of r1 (fun f h1 h6 => by funext j; rw [up_f (by omega)]) ?_)
    rw [up0, e0]
theorem s_casts (x : MB h0 m σ h) {c s : Nat} (hc : c < 6) (hs : s < 29) (n : Int32) {K : Hp → Prop} (hK : ∀ h1 σ1, MB h0 m σ1 h1 → (∀ f, 1 ≤ f → σ1 f = σ f) → (σ1 0 = fun y => if y = 8 + 29 * c + s then σ 0 y + n else if y = 2 then σ 0 2 - n * wd s else if y = 6 then σ 0 6 + n else σ 0 y) → K h1) : V_X7_casts m (nI c) (nI s) n h K := by
  unfold V_X7_casts
  simp only [x.s, e8, ix_nI (show 8 + 29 * c + s < 2 ^ 31 by omega), show vp_in (nI (8 + 29 * c + s)) 3475 from vin (by omega) (by omega), true_and]
  intro h1 e1
  have x1 := x.pa 0 rfl e1
  simp only [x1.s, LT, s_width hs, true_and]
  intro h2 e2
  have x2 := x1.pa 0 rfl e2
  simp only [x2.s, LT, true_and]
  intro h3 e3
  have x3 := x2.pa 0 rfl e3
  refine hK h3 _ x3 (fun f hf => by funext j; rw [up_f (by omega), up_f (by omega), up_f (by omega)]) ?_
  funext y
  simp only [up_e, true_and]
  simp only [show ¬ (6 : Nat) = 2 by decide, show ¬ (2 : Nat) = 8 + 29 * c + s by omega, show ¬ (6 : Nat) = 8 + 29 * c + s by omega, if_false]
  by_cases a1 : y = 6
  · subst a1; simp [show ¬ (6 : Nat) = 8 + 29 * c + s by omega]
  · by_cases a2 : y = 2
    · subst a2; simp [show ¬ (2 : Nat) = 8 + 29 * c + s by omega]
    · simp [a1, a2]
      by_cases a3 : y = 8 + 29 * c + s
      · subst a3; simp
      · simp [a3]
theorem castA_one (ρ : Row) (c s : Nat) (hs : s < 29) (n : Int32) : castA ρ c (fun t => if t = s then n else 0) = fun y => if y = 8 + 29 * c + s then ρ y + n else if y = 2 then ρ 2 - n * wd s else if y = 6 then ρ 6 + n else ρ y := by
  funext y
  unfold castA
  rw [sm_one (k := s) hs (fun i _ h => by simp [h]), sm_one (k := s) hs (fun i _ h => by simp [h])]
  simp only [if_true]
  by_cases a : 8 + 29 * c ≤ y ∧ y < 8 + 29 * c + 29
  · rw [if_pos a]
    by_cases b : y = 8 + 29 * c + s
    · rw [if_pos b, if_pos (by omega)]
    · rw [if_neg b, if_neg (by omega), Int32.add_zero, if_neg (by omega), if_neg (by omega)]
  · rw [if_neg a, if_neg (show ¬ y = 8 + 29 * c + s by omega)]
theorem badC_of {ρ : Row} {nc : Nat} (hn : ρ 0 = nI nc) (h6 : nc ≤ 6) (a : Int32) : badC ρ a ∨ ∃ c, c < nc ∧ c < 6 ∧ a = nI c ∧ ¬ badC ρ a ∧ ix a = c := by
  unfold badC
  rw [hn]
  rcases rng a (n := nc) (by omega) with h | ⟨c, h1, h2, h3⟩
  · exact Or.inl h
  · exact Or.inr ⟨c, h1, by omega, h2, h3, by rw [h2]; exact ix_nI (by omega)⟩
theorem badJ_of {ρ : Row} {nj : Nat} (hn : ρ 1 = nI nj) (h6 : nj ≤ 12) (a : Int32) : badJ ρ a ∨ ∃ c, c < nj ∧ c < 12 ∧ a = nI c ∧ ¬ badJ ρ a ∧ ix a = c := by
  unfold badJ
  rw [hn]
  rcases rng a (n := nj) (by omega) with h | ⟨c, h1, h2, h3⟩
  · exact Or.inl h
  · exact Or.inr ⟨c, h1, by omega, h2, h3, by rw [h2]; exact ix_nI (by omega)⟩
theorem badS_of (a : Int32) : badS a ∨ ∃ s, s < 29 ∧ a = nI s ∧ ¬ badS a ∧ ix a = s := by
  rcases rngL a (n := 28) rfl (by decide) with h | ⟨c, h1, h2, h3⟩
  · exact Or.inl h
  · exact Or.inr ⟨c, by omega, h2, h3, by rw [h2]; exact ix_nI (by omega)⟩
theorem anyFull_one {ρ : Row} {c s : Nat} (hs : s < 29) (n : Int32) (h99 : ∀ t, t < 29 → ρ (8 + 29 * c + t) ≤ 99) : anyFull ρ c (fun t => if t = s then n else 0) = true ↔ 99 < ρ (8 + 29 * c + s) + n := by
  unfold anyFull
  rw [List.any_eq_true]
  constructor
  · rintro ⟨t, h1, h2⟩
    have ht := List.mem_range.mp h1
    simp only [decide_eq_true_eq] at h2
    by_cases e : t = s
    · subst e; simpa using h2
    · rw [if_neg e, Int32.add_zero] at h2
      exact absurd (h99 t ht) (Int32.not_le.mpr h2)
  · intro h2
    exact ⟨s, List.mem_range.mpr hs, by simpa using h2⟩
theorem m_cast (x : MB h0 m σ h) (hk : k ≤ 5) (hk2 : σ 2 0 = nI k) {nc : Nat} (hn : σ 0 0 = nI nc) (hn6 : nc ≤ 6) (h99 : ∀ c t, c < 6 → t < 29 → σ 0 (8 + 29 * c + t) ≤ 99) (b s n : Int32) (hO : OM h0 m σ k K (sp_cast (σ 0) b s n)) : V_X7_cast m b s n h K := by
  unfold V_X7_cast V_X7_cast_15
  unfold sp_cast at hO
  simp only [x.s, s_noCase x, s_noSort, s_in, true_and]
  rcases badC_of hn hn6 b with hb | ⟨c, hc, hc6, rfl, hb, hbi⟩
  · rw [if_pos (Or.inl hb)] at hO
    rw [if_pos hb]
    exact ⟨fun _ => hO.no x Idle.rf, fun q => absurd q ne01⟩
  · rw [if_neg hb]
    refine ⟨fun q => absurd rfl q, fun _ => ?_⟩
    rcases badS_of s with hs | ⟨t, ht, rfl, hs, hsi⟩
    · rw [if_pos (Or.inr hs)] at hO
      rw [if_pos hs]
      exact ⟨fun q => absurd q ne01, fun _ => hO.no x Idle.rf⟩
    · rw [if_neg (fun q => q.elim hb hs)] at hO
      rw [if_neg hs]
      refine ⟨fun _ => ?_, fun q => absurd rfl q⟩
      rw [hbi, hsi] at hO
      by_cases hn : n < 1 ∨ 99 < n
      · rw [if_pos hn] at hO ⊢
        exact ⟨fun q => absurd rfl q, fun _ => hO.no x Idle.rf⟩
      · rw [if_neg hn] at hO ⊢
        refine ⟨fun _ => ?_, fun q => absurd q ne01⟩
        rw [s_has x hc6 ht]
        unfold castW at hO
        simp only [anyFull_one ht n (h99 c · hc6)] at hO
        refine ⟨fun q => ?_, fun q => ?_⟩
        · rw [if_neg (Int32.not_lt.mpr q), sm_one (k := t) ht (fun i _ h => by simp [h])] at hO
          rw [s_width ht]
          simp only [x.s, LT, true_and]
          simp only [if_true] at hO
          refine ⟨fun q2 => ?_, fun q2 => ?_⟩
          · rw [if_pos q2] at hO
            refine s_record x hk hk2 (fun h1 σ1 x1 r1 => ?_)
            refine ⟨x1.k, s_casts x1 hc6 ht n (fun h2 σ2 x2 g1 g2 => ?_)⟩
            refine ⟨x2.k, (s_has x2 hc6 ht).mpr ?_⟩
            have e0 := r1.1 0 (by decide) (by decide)
            rw [g2, e0]
            simp only [if_true]
            refine hO.did x2 (Act.of r1 (fun f a _ => g1 f a) ?_)
            rw [g2, e0, castA_one _ _ _ ht]
          · rw [if_neg q2] at hO
            exact hO.no x Idle.rf
        · rw [if_pos (Int32.not_le.mp q)] at hO
          exact hO.no x Idle.rf
theorem m_melt (x : MB h0 m σ h) (hk : k ≤ 5) (hk2 : σ 2 0 = nI k) {nc : Nat} (hn : σ 0 0 = nI nc) (hn6 : nc ≤ 6) (b s n : Int32) (hO : OM h0 m σ k K (sp_melt (σ 0) b s n)) : V_X7_melt m b s n h K := by
  unfold V_X7_melt V_X7_melt_15
  unfold sp_melt at hO
  simp only [x.s, s_noCase x, s_noSort, s_in, true_and]
  rcases badC_of hn hn6 b with hb | ⟨c, hc, hc6, rfl, hb, hbi⟩
  · rw [if_pos (Or.inl hb)] at hO
    rw [if_pos hb]
    exact ⟨fun _ => hO.no x Idle.rf, fun q => absurd q ne01⟩
  · rw [if_neg hb]
    refine ⟨fun q => absurd rfl q, fun _ => ?_⟩
    rcases badS_of s with hs | ⟨t, ht, rfl, hs, hsi⟩
    · rw [if_pos (Or.inr hs)] at hO
      rw [if_pos hs]
      exact ⟨fun q => absurd q ne01, fun _ => hO.no x Idle.rf⟩
    · rw [if_neg (fun q => q.elim hb hs)] at hO
      rw [if_neg hs]
      refine ⟨fun _ => ?_, fun q => absurd rfl q⟩
      rw [hbi, hsi] at hO
      by_cases hn : n < 1 ∨ 99 < n
      · rw [if_pos hn] at hO ⊢
        exact ⟨fun q => absurd rfl q, fun _ => hO.no x Idle.rf⟩
      · rw [if_neg hn] at hO ⊢
        refine ⟨fun _ => ?_, fun q => absurd q ne01⟩
        rw [s_has x hc6 ht]
        refine ⟨fun q => ?_, fun q => ?_⟩
        · rw [if_pos q] at hO
          refine ⟨x.k, s_record x hk hk2 (fun h1 σ1 x1 r1 => ?_)⟩
          have e0 := r1.1 0 (by decide) (by decide)
          simp only [x1.s, e8, ix_nI (show 8 + 29 * c + t < 2 ^ 31 by omega), show vp_in (nI (8 + 29 * c + t)) 3475 from vin (by omega) (by omega), true_and]
          intro h2 e2
          have x2 := x1.pa 0 rfl e2
          simp only [x2.s, LT, s_width ht, true_and]
          intro h3 e3
          have x3 := x2.pa 0 rfl e3
          simp only [x3.s, LT, true_and]
          intro h4 e4
          have x4 := x3.pa 0 rfl e4
          simp only [x4.s, LT, true_and]
          have e2' : up (up (up σ1 0 (8 + 29 * c + t) (σ1 0 (8 + 29 * c + t) - n)) 0 2 (up σ1 0 (8 + 29 * c + t) (σ1 0 (8 + 29 * c + t) - n) 0 2 + n * wd t)) 0 7 (up (up σ1 0 (8 + 29 * c + t) (σ1 0 (8 + 29 * c + t) - n)) 0 2 (up σ1 0 (8 + 29 * c + t) (σ1 0 (8 + 29 * c + t) - n) 0 2 + n * wd t) 0 7 + n) 0 = ur (ur (ur (σ 0) (8 + 29 * c + t) (σ 0 (8 + 29 * c + t) - n)) 2 (σ 0 2 + n * wd t)) 7 (σ 0 7 + n) := by
            rw [up0, up0, up0, ur_n (show (2 : Nat) ≠ 8 + 29 * c + t by omega), ur_n (show (7 : Nat) ≠ 2 by decide), ur_n (show (7 : Nat) ≠ 8 + 29 * c + t by omega), e0]
          have e3' := congrFun e2' 2
          rw [e3', ur_n (by decide), ur_s]
          refine hO.did x4 (Act.of r1 (fun f a _ => by funext j; rw [up_f (by omega), up_f (by omega), up_f (by omega)]) e2')
        · rw [if_neg q] at hO
          exact hO.no x Idle.rf
end MPUB
