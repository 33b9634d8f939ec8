/-! the reference's calls: metal and cases -/
theorem LT : (vp_in 0 3475 ∧ vp_in 1 3475 ∧ vp_in 2 3475 ∧ vp_in 3 3475 ∧ vp_in 4 3475 ∧ vp_in 5 3475 ∧ vp_in 6 3475 ∧ vp_in 7 3475) ∧ ix 0 = 0 ∧ ix 1 = 1 ∧ ix 2 = 2 ∧ ix 3 = 3 ∧ ix 4 = 4 ∧ ix 5 = 5 ∧ ix 6 = 6 ∧ ix 7 = 7 :=
  ⟨⟨vin (n := 0) (by decide) (by decide), vin (n := 1) (by decide) (by decide), vin (n := 2) (by decide) (by decide), vin (n := 3) (by decide) (by decide), vin (n := 4) (by decide) (by decide), vin (n := 5) (by decide) (by decide), vin (n := 6) (by decide) (by decide), vin (n := 7) (by decide) (by decide)⟩, rfl, rfl, rfl, rfl, rfl, rfl, rfl, rfl⟩
theorem ne01 : ¬ (1 : Int32) = 0 := by decide
section MPUB
variable {h0 h : Hp} {m : Nat} {σ : Nat → Nat → Int32} {K : Int32 → Hp → Prop} {k : Nat}
theorem castA_one (ρ : Row) (c s : Nat) (hs : s < 29) (n : Int32) : castA ρ c (fun t => if t = s then n else 0) = fun y => if y = 8 + 29 * c + s then ρ y + n else if y = 2 then ρ 2 - n * wd s else if y = 6 then ρ 6 + n else ρ y := by
  funext y
  unfold castA
  rw [sm_one (k := s) hs (fun i _ h => by simp [h]), sm_one (k := s) hs (fun i _ h => by simp [h])]
  simp only [if_true]
  by_cases a : 8 + 29 * c ≤ y ∧ y < 8 + 29 * c + 29
  · rw [if_pos a]
    by_cases b : y = 8 + 29 * c + s
    · rw [if_pos b, if_pos (by omega)]
    · rw [if_neg b, if_neg (by omega), Int32.add_zero, if_neg (by omega), if_neg (by omega)]
  · rw [if_neg a, if_neg (show ¬ y = 8 + 29 * c + s by omega)]
theorem badC_of {ρ : Row} {nc : Nat} (hn : ρ 0 = nI nc) (h6 : nc ≤ 6) (a : Int32) : badC ρ a ∨ ∃ c, c < nc ∧ c < 6 ∧ a = nI c ∧ ¬ badC ρ a ∧ ix a = c := by
  unfold badC
  rw [hn]
  rcases rng a (n := nc) (by omega) with h | ⟨c, h1, h2, h3⟩
  · exact Or.inl h
  · exact Or.inr ⟨c, h1, by omega, h2, h3, by rw [h2]; exact ix_nI (by omega)⟩
theorem badJ_of {ρ : Row} {nj : Nat} (hn : ρ 1 = nI nj) (h6 : nj ≤ 12) (a : Int32) : badJ ρ a ∨ ∃ c, c < nj ∧ c < 12 ∧ a = nI c ∧ ¬ badJ ρ a ∧ ix a = c := by
  unfold badJ
  rw [hn]
  rcases rng a (n := nj) (by omega) with h | ⟨c, h1, h2, h3⟩
  · exact Or.inl h
  · exact Or.inr ⟨c, h1, by omega, h2, h3, by rw [h2]; exact ix_nI (by omega)⟩
theorem badS_of (a : Int32) : badS a ∨ ∃ s, s < 29 ∧ a = nI s ∧ ¬ badS a ∧ ix a = s := by
  rcases rngL a (n := 28) rfl (by decide) with h | ⟨c, h1, h2, h3⟩
  · exact Or.inl h
  · exact Or.inr ⟨c, by omega, h2, h3, by rw [h2]; exact ix_nI (by omega)⟩
theorem anyFull_one {ρ : Row} {c s : Nat} (hs : s < 29) (n : Int32) (h99 : ∀ t, t < 29 → ρ (8 + 29 * c + t) ≤ 99) : anyFull ρ c (fun t => if t = s then n else 0) = true ↔ 99 < ρ (8 + 29 * c + s) + n := by
  unfold anyFull
  rw [List.any_eq_true]
  constructor
  · rintro ⟨t, h1, h2⟩
    have ht := List.mem_range.mp h1
    simp only [decide_eq_true_eq] at h2
    by_cases e : t = s
    · subst e; simpa using h2
    · rw [if_neg e, Int32.add_zero] at h2
      exact absurd (h99 t ht) (Int32.not_le.mpr h2)
  · intro h2
    exact ⟨s, List.mem_range.mpr hs, by simpa using h2⟩
end MPUB
