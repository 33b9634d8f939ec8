/-! the reference's calls: an order -/
/-- a job's places are zeros; its heads; its text -/
def oz (ρ : Row) (j i : Nat) : Row := fun x => if 211 + 272 * j ≤ x ∧ x < 211 + 272 * j + i then 0 else ρ x
def o6 (ρ : Row) (j : Nat) (b w d l : Int32) : Row := ur (ur (ur (ur (ur (ur ρ (211 + 272 * j + 0) b) (211 + 272 * j + 1) w) (211 + 272 * j + 2) d) (211 + 272 * j + 4) (-5)) (211 + 272 * j + 5) (-5)) (211 + 272 * j + 6) l
def os (ρ : Row) (j : Nat) (tx : Nat → Int32) (i : Nat) : Row := fun x => if 211 + 272 * j + 7 ≤ x ∧ x < 211 + 272 * j + 7 + i then tx (x - (211 + 272 * j + 7)) else ρ x
def ordR (ρ : Row) (j : Nat) (b w d : Int32) (tx : Nat → Int32) (t : Nat) : Row := ur (os (o6 (oz ρ j 272) j b w d (nI t)) j tx t) 1 (nI (j + 1))
theorem oz_0 (ρ : Row) (j : Nat) : oz ρ j 0 = ρ := by
  funext x
  exact if_neg (by omega)
theorem oz_S (ρ : Row) (j i : Nat) : ur (oz ρ j i) (211 + 272 * j + i) 0 = oz ρ j (i + 1) := by
  funext x
  show (if x = 211 + 272 * j + i then 0 else if 211 + 272 * j ≤ x ∧ x < 211 + 272 * j + i then 0 else ρ x) = (if 211 + 272 * j ≤ x ∧ x < 211 + 272 * j + (i + 1) then 0 else ρ x)
  by_cases e : x = 211 + 272 * j + i
  · rw [if_pos e, if_pos (by omega)]
  · rw [if_neg e]
    by_cases e2 : 211 + 272 * j ≤ x ∧ x < 211 + 272 * j + i
    · rw [if_pos e2, if_pos (by omega)]
    · rw [if_neg e2, if_neg (by omega)]
theorem os_0 (ρ : Row) (j : Nat) (tx : Nat → Int32) : os ρ j tx 0 = ρ := by
  funext x
  exact if_neg (by omega)
theorem os_S (ρ : Row) (j i : Nat) (tx : Nat → Int32) : ur (os ρ j tx i) (211 + 272 * j + (7 + i)) (tx i) = os ρ j tx (i + 1) := by
  funext x
  show (if x = 211 + 272 * j + (7 + i) then tx i else if 211 + 272 * j + 7 ≤ x ∧ x < 211 + 272 * j + 7 + i then tx (x - (211 + 272 * j + 7)) else ρ x) = (if 211 + 272 * j + 7 ≤ x ∧ x < 211 + 272 * j + 7 + (i + 1) then tx (x - (211 + 272 * j + 7)) else ρ x)
  by_cases e : x = 211 + 272 * j + (7 + i)
  · rw [if_pos e, if_pos (by omega), show x - (211 + 272 * j + 7) = i by omega]
  · rw [if_neg e]
    by_cases e2 : 211 + 272 * j + 7 ≤ x ∧ x < 211 + 272 * j + 7 + i
    · rw [if_pos e2, if_pos (by omega)]
    · rw [if_neg e2, if_neg (by omega)]
/-- an order whose text has no fault -/
def sp_ord (ρ : Row) (nj : Nat) (b w d : Int32) (tx : Nat → Int32) (t : Nat) : Ans := if (lay tx w t).1.2.2.2 = true then no (-4) else if nj = 12 then no (-3) else did (nI nj) (fun ρ' => ρ' = ordR ρ nj b w d tx t)
def sp_order (ρ : Row) (nj : Nat) (b w d : Int32) (tx : Nat → Int32) (t : Nat) : Ans := if badC ρ b then no (-1) else if w < 10 ∨ 150 < w then no (-2) else if d < 0 ∨ 9999 < d then no (-2) else match flt tx t true 0 with
  | some i => no ((-100) - nI i)
  | none => sp_ord ρ nj b w d tx t
theorem flt_le {tx : Nat → Int32} : ∀ (d : Nat) (want : Bool) (i y : Nat), flt tx d want i = some y → y ≤ i + d := by
  intro d
  induction d with
  | zero =>
    intro want i y h
    unfold flt at h
    by_cases e : want = true
    · rw [if_pos e] at h; cases h; omega
    · rw [if_neg e] at h; cases h
  | succ d ih =>
    intro want i y h
    unfold flt at h
    by_cases e : isL (tx i)
    · rw [if_pos e] at h
      have := ih _ _ _ h
      omega
    · rw [if_neg e] at h
      by_cases e2 : want = true ∨ ¬ (tx i = 32 ∨ tx i = 47)
      · rw [if_pos e2] at h; cases h; omega
      · rw [if_neg e2] at h
        have := ih _ _ _ h
        omega
section MORDER
variable {h0 h : Hp} {m : Nat} {σ : Nat → Nat → Int32} {K : Int32 → Hp → Prop} {k : Nat}
end MORDER
