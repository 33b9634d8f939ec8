/-! the reference lays a text -/
def LRel (L : LySt) (σ : Nat → Nat → Int32) : Prop :=
  σ 9 0 = nI L.1.1 ∧ σ 10 0 = nI L.1.2.1 ∧ σ 11 0 = nI L.1.2.2.1 ∧ σ 16 0 = b01 L.1.2.2.2 ∧ (∀ l, l < L.1.1 → σ 12 l = nI (L.2.1 l) ∧ σ 13 l = nI (L.2.2.1 l)) ∧ (∀ l, l ≤ L.1.1 → 0 < L.1.1 → σ 14 l = nI (L.2.2.2.1 l)) ∧ ∀ k, k < L.1.2.2.1 → σ 15 k = L.2.2.2.2 k
section MLAY
variable {h0 h : Hp} {m : Nat} {σ : Nat → Nat → Int32} {K : Hp → Prop}
end MLAY
