/-! what a call asks of a row -/
section BNS
variable {t : Nat}
/-- all that a call asks -/
def BN (ρ : Row) (t nc nj d : Nat) : Prop := nc ≤ 6 ∧ nj ≤ 12 ∧ d ≤ 30 * t ∧ ρ 0 = nI nc ∧ ρ 1 = nI nj ∧ ρ 3 = nI d ∧ (∀ c s, c < 6 → s < 29 → ∃ n, n ≤ 99 ∧ ρ (8 + 29 * c + s) = nI n) ∧ (∀ c s, nc ≤ c → c < 6 → s < 29 → ρ (8 + 29 * c + s) = 0) ∧ ∀ j, j < nj → JWF ρ nc j
theorem BN.h99 {ρ : Row} {nc nj d : Nat} (b : BN ρ t nc nj d) : ∀ c s, c < 6 → s < 29 → ρ (8 + 29 * c + s) ≤ 99 := fun c s hc hs => by
  obtain ⟨n, hn, e⟩ := b.2.2.2.2.2.2.1 c s hc hs
  rw [e]
  exact (nI_leI (b := 99) (by omega) (by decide)).mpr hn
theorem BN.hJ {ρ : Row} {nc nj d : Nat} (b : BN ρ t nc nj d) : ∀ j, j < nj → JT ρ j := fun j hj => (b.2.2.2.2.2.2.2.2 j hj).1.1
theorem BN.hH {ρ : Row} {nc nj d : Nat} (b : BN ρ t nc nj d) : ∀ j, j < nj → ∃ c, c < 6 ∧ jb ρ j 0 = nI c := fun j hj => by
  obtain ⟨c, hc, e⟩ := (b.2.2.2.2.2.2.2.2 j hj).2.1
  exact ⟨c, by have := b.1; omega, e⟩
theorem BN.z2 {ρ : Row} {nc nj d : Nat} (b : BN ρ t nc nj d) : ∀ j c s, j < nj → nc ≤ c → c < 6 → s < 29 → fm ρ j c s = 0 := fun j c s hj => (b.2.2.2.2.2.2.2.2 j hj).2.2.2.1 c s
theorem BN.z3 {ρ : Row} {nc nj d : Nat} (b : BN ρ t nc nj d) : ∀ j, j < nj → ¬ (jb ρ j 3 = 1 ∨ jb ρ j 3 = 2) → ∀ c s, c < 6 → s < 29 → fm ρ j c s = 0 := fun j hj => (b.2.2.2.2.2.2.2.2 j hj).2.2.2.2.1
theorem BN.hL {ρ : Row} {nc nj d : Nat} (b : BN ρ t nc nj d) : ∀ j, j < nj → jb ρ j 5 = lateC ρ j := fun j hj => (b.2.2.2.2.2.2.2.2 j hj).2.2.2.2.2.2.1
theorem BN.z4 {ρ : Row} {nc nj d : Nat} (b : BN ρ t nc nj d) : ∀ j, j < nj → (jb ρ j 3 = 0 ∨ jb ρ j 3 = 1) → jb ρ j 4 = -5 := fun j hj => (b.2.2.2.2.2.2.2.2 j hj).2.2.2.2.2.2.2
theorem BN.hsm {ρ : Row} {nc nj d : Nat} (b : BN ρ t nc nj d) : ∀ j s, j < nj → s < 29 → ∃ a b, a < 2 ^ 20 ∧ b < 2 ^ 20 ∧ ndF ρ nc j (jlen ρ j) s = nI a ∧ thr ρ nc j s = nI b := fun j s hj hs => hsm_of b.1 hs b.2.2.2.2.2.2.1 (b.2.2.2.2.2.2.2.2 j hj)
theorem BN.hsm30 {ρ : Row} {nc nj d : Nat} (b : BN ρ t nc nj d) : ∀ j s, j < nj → s < 29 → ∃ a b, a < 2 ^ 30 ∧ b < 2 ^ 30 ∧ ndF ρ nc j (jlen ρ j) s = nI a ∧ thr ρ nc j s = nI b := fun j s hj hs => by
  obtain ⟨p, q, hp, hq, e⟩ := b.hsm j s hj hs
  exact ⟨p, q, by omega, by omega, e⟩
theorem BN.hlk {ρ : Row} {nc nj d : Nat} (b : BN ρ t nc nj d) : ∀ j s, j < nj → s < 29 → lkF ρ nc j s ≤ 0 → lkF ρ nc j s = 0 := fun j s hj hs hle => by
  obtain ⟨v, hv, e⟩ := lk_nI (b.hsm j s hj hs)
  rw [e] at hle ⊢
  rw [show v = 0 by have := (le0 (by omega)).mp hle; omega]; rfl
theorem ga_if {c : Prop} {_ : Decidable c} {r : Int32} {o : Ans} (g : GA o t) : GA (if c then no r else o) t := by
  by_cases e : c
  · rw [if_pos e]; exact ga_no
  · rw [if_neg e]; exact g
end BNS
