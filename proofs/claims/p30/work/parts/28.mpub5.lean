/-! the reference's calls: texts, undo, keep, restore -/
section MPUB5
variable {h0 h : Hp} {m : Nat} {σ : Nat → Nat → Int32} {K : Int32 → Hp → Prop} {k : Nat}
def sp_restore (filled : Int32) (slot : Row) : Ans := if filled = 0 then no (-5) else did (slot 1) (fun ρ' => ∀ x, x < 3475 → ρ' x = slot x)
end MPUB5
