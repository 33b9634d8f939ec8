/-! the reference's calls: sums over cases and jobs, texts, history -/
section MPUB3
variable {h0 h : Hp} {m : Nat} {σ : Nat → Nat → Int32} {K : Int32 → Hp → Prop} {k : Nat}
theorem nle {nc i : Nat} (h1 : nc < 2 ^ 31) (h2 : i < 2 ^ 31) : nI nc ≤ nI i ↔ nc ≤ i := nI_leI h1 h2
def fterm (ρ : Row) (j : Nat) (a2 : Int32) (c s : Nat) : Int32 := if a2 = 0 then fm ρ j c s else if nI c = jb ρ j 0 then 0 else fm ρ j c s
/-! sums over cases and jobs -/
theorem urg_of (ρ : Row) : ∀ j, urg ρ j = -5 ∨ ∃ i, i < j ∧ urg ρ j = nI i
  | 0 => Or.inl rfl
  | j + 1 => by
    unfold urg
    split
    · rcases urg_of ρ j with h | ⟨i, h1, h2⟩
      · exact Or.inl h
      · exact Or.inr ⟨i, by omega, h2⟩
    · split
      · exact Or.inr ⟨j, by omega, rfl⟩
      · split
        · rcases urg_of ρ j with h | ⟨i, h1, h2⟩
          · exact Or.inl h
          · exact Or.inr ⟨i, by omega, h2⟩
        · exact Or.inr ⟨j, by omega, rfl⟩
end MPUB3
