/-! the reference's history -/
def rk (k : Nat) : Nat := if k = 5 then 5 else k + 1
/-- σ' is σ with the row recorded (k states were kept) -/
def Rec (σ : Nat → Nat → Int32) (k : Nat) (σ' : Nat → Nat → Int32) : Prop :=
  (∀ f, f ≠ 1 → f ≠ 2 → σ' f = σ f) ∧ σ' 2 0 = nI (rk k) ∧ ∀ i, i < rk k → ∀ x, x < 3475 → σ' 1 (3475 * i + x) = if i + 1 = rk k then σ 0 x else σ 1 (3475 * (i + if k = 5 then 1 else 0) + x)
section MREC
variable {h0 : Hp} {m : Nat} {K : Hp → Prop}
end MREC
