/-! the reference's small methods -/
theorem clit {v : Int32} (N : Nat) (hv : v = nI N) {i : Nat} (hN : N < 2 ^ 31) (hi : i < 2 ^ 31) : v ≤ nI i ↔ N ≤ i := by rw [hv]; exact nI_leI hN hi
theorem rng (a : Int32) {n : Nat} (hn : n < 2 ^ 30) : (a < 0 ∨ nI n - 1 < a) ∨ ∃ c, c < n ∧ a = nI c ∧ ¬ (a < 0 ∨ nI n - 1 < a) := by
  by_cases h : a < 0 ∨ nI n - 1 < a
  · exact Or.inl h
  · right
    have h1 : ¬ a < 0 := fun q => h (Or.inl q)
    have h2 : ¬ nI n - 1 < a := fun q => h (Or.inr q)
    obtain ⟨j, hj, rfl⟩ := nI_of h1
    refine ⟨j, ?_, rfl, h⟩
    have h3 : (nI n - nI 1).toInt = (n : Int) - (1 : Nat) := pk_sub_toInt hn (by omega)
    have h4 : ¬ (nI n - nI 1) < nI j := h2
    rw [Int32.lt_iff_toInt_lt, h3, nI_toInt hj] at h4
    omega
/-- a range with a literal end -/
theorem rngL (a : Int32) {n : Nat} {v : Int32} (hv : v = nI n) (hn : n < 2 ^ 30) : (a < 0 ∨ v < a) ∨ ∃ c, c ≤ n ∧ a = nI c ∧ ¬ (a < 0 ∨ v < a) := by
  by_cases h : a < 0 ∨ v < a
  · exact Or.inl h
  · right
    have h1 : ¬ a < 0 := fun q => h (Or.inl q)
    have h2 : ¬ v < a := fun q => h (Or.inr q)
    obtain ⟨j, hj, rfl⟩ := nI_of h1
    refine ⟨j, ?_, rfl, h⟩
    rw [hv, nI_ltI (by omega) hj] at h2
    omega
section MLEAF
variable {h0 h : Hp} {m : Nat} {σ : Nat → Nat → Int32} {K : Int32 → Hp → Prop}
def lk (σ : Nat → Nat → Int32) (s : Nat) : Int32 := if σ 17 s ≤ σ 18 s then 0 else σ 17 s - σ 18 s
/-! sums -/
end MLEAF
